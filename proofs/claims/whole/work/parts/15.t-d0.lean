section
variable {p : Program} {l : Launch} {e : Env} {s : State} {m : MethodId} {args : Array Value} {below : List Frame} {meth : Method} {c : Code} {Q : State → Prop} {D : va_G} {aC : Nat → ClassId} {ad : Nat → Nat} {sg : SG} {A : Nat → Prop} {H0 : Heap}
set_option maxRecDepth 100000 in
set_option maxHeartbeats 4000000 in
theorem b_X11_within_0 (X : CX p s m args c cX11_within 3 RX11 D aC ad sg A H0) {M : Mem} {o : Int} (HR : ∀ (r : Int) (H : Heap) (locs : List Loc) (pc : Nat) (ls : Array Slot), o = r → isZ r → WS D aC ad A H0 M H locs → decode cX11_within pc = .ok (.ireturn, 1) → W p l e rm_X11_within s m args below meth c H locs 0 0 Q (F0 m pc ls [.int (i2 r)])) (p0 : Int) (hp0 : inR p0) (p1 : Int) (hp1 : inR p1) (p2 : Int) (hp2 : inR p2) (hf : f_X11_within p0 p1 p2 M = some o) {H : Heap} {locs : List Loc} {ls : Array Slot} (hl : lv_has ls 3 [(0, .int (i2 p0)), (1, .int (i2 p1)), (2, .int (i2 p2))]) (w : WS D aC ad A H0 M H locs) : W p l e rm_X11_within s m args below meth c H locs 0 0 Q (F0 m 0 ls []) := by
  have hx := X.1.1
  have hb := X.1.2.1
  unfold f_X11_within at hf
  refine lv_iload_n hx hb dX11_within_0 rfl (lv_at hl 0 rfl) ?_
  refine lv_iload_n hx hb dX11_within_1 rfl (lv_at hl 1 rfl) ?_
  refine g_icmp_lt (tgt := 14) X hp0 hp1 dX11_within_2 (by decide) (fun cd => ?_) (fun cd => ?_)
  · replace hf := ite_t cd hf
    refine g_iconst X dX11_within_14 ?_
    exact HR 0 _ _ _ _ (Option.some.inj hf).symm (Or.inl rfl) w dX11_within_15
  · replace hf := ite_f cd hf
    refine lv_iload_n hx hb dX11_within_5 rfl (lv_at hl 0 rfl) ?_
    refine lv_iload_n hx hb dX11_within_6 rfl (lv_at hl 2 rfl) ?_
    refine g_icmp_gt (tgt := 14) X hp0 hp2 dX11_within_7 (by decide) (fun cd_2 => ?_) (fun cd_2 => ?_)
    · replace hf := ite_t cd_2 hf
      refine g_iconst X dX11_within_14 ?_
      exact HR 0 _ _ _ _ (Option.some.inj hf).symm (Or.inl rfl) w dX11_within_15
    · replace hf := ite_f cd_2 hf
      refine g_iconst X dX11_within_10 ?_
      refine lv_goto (tgt := 15) hx hb dX11_within_11 (by decide) ?_
      exact HR 1 _ _ _ _ (Option.some.inj hf).symm (Or.inr rfl) w dX11_within_15
set_option maxRecDepth 100000 in
set_option maxHeartbeats 4000000 in
theorem k_X11_within {l : Launch} {D : va_G} {aC : Nat → ClassId} {ad : Nat → Nat} {sg : SG} (hi : Inj ad) (p0 : Int) (hp0 : inR p0) (p1 : Int) (hp1 : inR p1) (p2 : Int) (hp2 : inR p2) {M : Mem} (hM : inM M) {r : Int} (hf : f_X11_within p0 p1 p2 M = some r) : MetI l D aC ad sg yX11_within cX11_within 3 (some .boolean) rm_X11_within 0 0 [.int (i2 p0), .int (i2 p1), .int (i2 p2)] M r M := by
  refine MetI.ofZ (by decide +kernel) (nle rfl) hi hM (fun p e s m args below meth c Q H0 ls X hl w hret => ?_)
  exact b_X11_within_0 X  (fun r1 H locs pc ls eo hP w dg => by cases eo; exact hret H locs pc ls hP w dg) p0 hp0 p1 hp1 p2 hp2 hf hl w
set_option maxRecDepth 100000 in
set_option maxHeartbeats 4000000 in
theorem b_X11_child_0 (X : CX p s m args c cX11_child 4 RX11 D aC ad sg A H0) {o : Int × Mem} (HR : ∀ (r : Int) (M1 : Mem) (H : Heap) (locs : List Loc) (pc : Nat) (ls : Array Slot), o = (r, M1) → inR r → WS D aC ad A H0 M1 H locs → decode cX11_child pc = .ok (.ireturn, 1) → W p l e rm_X11_child s m args below meth c H locs 0 0 Q (F0 m pc ls [.int (i2 r)])) (p1 : Int) (hp1 : inR p1) (p2 : Int) (hp2 : inR p2) (p3 : Int) (hp3 : inR p3) (M : Mem) (hf : f_X11_child p1 p2 p3 M = some o) {H : Heap} {locs : List Loc} {ls : Array Slot} (hl : lv_has ls 4 [(0, .ref (ad 80)), (1, .int (i2 p1)), (2, .int (i2 p2)), (3, .int (i2 p3))]) (w : WS D aC ad A H0 M H locs) : W p l e rm_X11_child s m args below meth c H locs 0 0 Q (F0 m 0 ls []) := by
  have hx := X.1.1
  have hb := X.1.2.1
  unfold f_X11_child at hf
  refine lv_aload_n hx hb dX11_child_0 rfl (lv_at hl 0 rfl) ?_
  refine g_iconst X dX11_child_1 ?_
  obtain ⟨M_2, eM_2, hf⟩ := lt_some hf
  refine g_puti X w fp_X11_139 KD_80 FR_80_0 (inL rfl) dX11_child_2 (fun H locs w_M_2 => ?_)
  rw [← eM_2] at w_M_2
  refine lv_iload_n hx hb dX11_child_5 rfl (lv_at hl 1 rfl) ?_
  refine g_iconst X dX11_child_6 ?_
  refine g_iconst X dX11_child_7 ?_
  obtain ⟨r, hc, hf⟩ := obn_some hf
  refine g_csi (As := [.int (i2 p1), .int (i2 0), .int (i2 1)]) (rest := []) X w_M_2 (k_X11_within X.2.2.1 p1 hp1 0 (inL rfl) 1 (inL rfl) w_M_2.2.2 hc) lk_X11_145 ⟨rfl, rfl⟩ ⟨nle rfl, nle rfl⟩ ⟨nle rfl, nle rfl⟩ hl.1 rfl (nle rfl) dX11_child_8 (fun hr H locs w_M_2 => ?_)
  refine g_if_eq (tgt := 44) X hr dX11_child_11 (by decide) (fun cd => ?_) (fun cd => ?_)
  · replace hf := ite_t cd hf
    refine g_iconst X dX11_child_44 ?_
    exact HR (-1) M_2 _ _ _ _ (Option.some.inj hf).symm (inL rfl) w_M_2 dX11_child_45
  · replace hf := ite_f cd hf
    refine lv_iload_n hx hb dX11_child_14 rfl (lv_at hl 2 rfl) ?_
    refine g_iconst X dX11_child_15 ?_
    refine g_bipush X dX11_child_16 (by decide) ?_
    obtain ⟨r_2, hc, hf⟩ := obn_some hf
    refine g_csi (As := [.int (i2 p2), .int (i2 1), .int (i2 12)]) (rest := []) X w_M_2 (k_X11_within X.2.2.1 p2 hp2 1 (inL rfl) 12 (inL rfl) w_M_2.2.2 hc) lk_X11_145 ⟨rfl, rfl⟩ ⟨nle rfl, nle rfl⟩ ⟨nle rfl, nle rfl⟩ hl.1 rfl (nle rfl) dX11_child_18 (fun hr_2 H locs w_M_2 => ?_)
    refine g_if_eq (tgt := 44) X hr_2 dX11_child_21 (by decide) (fun cd_2 => ?_) (fun cd_2 => ?_)
    · replace hf := ite_t cd_2 hf
      refine g_iconst X dX11_child_44 ?_
      exact HR (-1) M_2 _ _ _ _ (Option.some.inj hf).symm (inL rfl) w_M_2 dX11_child_45
    · replace hf := ite_f cd_2 hf
      refine lv_iload_n hx hb dX11_child_24 rfl (lv_at hl 3 rfl) ?_
      refine g_iconst X dX11_child_25 ?_
      refine g_sipush X dX11_child_26 (by decide) ?_
      obtain ⟨r_3, hc, hf⟩ := obn_some hf
      refine g_csi (As := [.int (i2 p3), .int (i2 0), .int (i2 255)]) (rest := []) X w_M_2 (k_X11_within X.2.2.1 p3 hp3 0 (inL rfl) 255 (inL rfl) w_M_2.2.2 hc) lk_X11_145 ⟨rfl, rfl⟩ ⟨nle rfl, nle rfl⟩ ⟨nle rfl, nle rfl⟩ hl.1 rfl (nle rfl) dX11_child_29 (fun hr_3 H locs w_M_2 => ?_)
      refine g_if_eq (tgt := 44) X hr_3 dX11_child_32 (by decide) (fun cd_3 => ?_) (fun cd_3 => ?_)
      · replace hf := ite_t cd_3 hf
        refine g_iconst X dX11_child_44 ?_
        exact HR (-1) M_2 _ _ _ _ (Option.some.inj hf).symm (inL rfl) w_M_2 dX11_child_45
      · replace hf := ite_f cd_3 hf
        refine lv_aload_n hx hb dX11_child_35 rfl (lv_at hl 0 rfl) ?_
        refine g_geti X w_M_2 fg_X11_142 KD_80 FR_80_1 dX11_child_36 ?_
        refine g_bipush X dX11_child_39 (by decide) ?_
        refine g_icmp_ne (tgt := 46) X (w_M_2.2.2 _ _) (inL rfl) dX11_child_41 (by decide) (fun cd_4 => ?_) (fun cd_4 => ?_)
        · replace hf := ite_f cd_4 hf
          refine lv_aload_n hx hb dX11_child_46 rfl (lv_at hl 0 rfl) ?_
          refine g_getr X w_M_2 fg_X11_7 KD_80 FR_80_2 dX11_child_47 ?_
          refine lv_aload_n hx hb dX11_child_50 rfl (lv_at hl 0 rfl) ?_
          refine g_geti X w_M_2 fg_X11_142 KD_80 FR_80_1 dX11_child_51 ?_
          refine lv_iload_n hx hb dX11_child_54 rfl (lv_at hl 1 rfl) ?_
          obtain ⟨hg, hf⟩ := gd_some hf
          obtain ⟨M_3, eM_3, hf⟩ := lt_some hf
          refine g_iast X w_M_2 KD_81 (w_M_2.2.2 _ _) hg hp1 dX11_child_55 (fun H locs w_M_3 => ?_)
          rw [← eM_3] at w_M_3
          refine lv_aload_n hx hb dX11_child_56 rfl (lv_at hl 0 rfl) ?_
          refine g_getr X w_M_3 fg_X11_13 KD_80 FR_80_3 dX11_child_57 ?_
          refine lv_aload_n hx hb dX11_child_60 rfl (lv_at hl 0 rfl) ?_
          refine g_geti X w_M_3 fg_X11_142 KD_80 FR_80_1 dX11_child_61 ?_
          refine lv_iload_n hx hb dX11_child_64 rfl (lv_at hl 2 rfl) ?_
          obtain ⟨hg_2, hf⟩ := gd_some hf
          obtain ⟨M_4, eM_4, hf⟩ := lt_some hf
          refine g_iast X w_M_3 KD_82 (w_M_3.2.2 _ _) hg_2 hp2 dX11_child_65 (fun H locs w_M_4 => ?_)
          rw [← eM_4] at w_M_4
          refine lv_aload_n hx hb dX11_child_66 rfl (lv_at hl 0 rfl) ?_
          refine g_getr X w_M_4 fg_X11_16 KD_80 FR_80_4 dX11_child_67 ?_
          refine lv_aload_n hx hb dX11_child_70 rfl (lv_at hl 0 rfl) ?_
          refine g_geti X w_M_4 fg_X11_142 KD_80 FR_80_1 dX11_child_71 ?_
          refine lv_iload_n hx hb dX11_child_74 rfl (lv_at hl 3 rfl) ?_
          obtain ⟨hg_3, hf⟩ := gd_some hf
          obtain ⟨M_5, eM_5, hf⟩ := lt_some hf
          refine g_iast X w_M_4 KD_83 (w_M_4.2.2 _ _) hg_3 hp3 dX11_child_75 (fun H locs w_M_5 => ?_)
          rw [← eM_5] at w_M_5
          refine lv_aload_n hx hb dX11_child_76 rfl (lv_at hl 0 rfl) ?_
          refine g_getr X w_M_5 fg_X11_19 KD_80 FR_80_5 dX11_child_77 ?_
          refine lv_aload_n hx hb dX11_child_80 rfl (lv_at hl 0 rfl) ?_
          refine g_geti X w_M_5 fg_X11_142 KD_80 FR_80_1 dX11_child_81 ?_
          refine lv_aload_n hx hb dX11_child_84 rfl (lv_at hl 0 rfl) ?_
          refine g_geti X w_M_5 fg_X11_153 KD_80 FR_80_14 dX11_child_85 ?_
          obtain ⟨hg_4, hf⟩ := gd_some hf
          obtain ⟨M_6, eM_6, hf⟩ := lt_some hf
          refine g_iast X w_M_5 KD_84 (w_M_5.2.2 _ _) hg_4 (w_M_5.2.2 _ _) dX11_child_88 (fun H locs w_M_6 => ?_)
          rw [← eM_6] at w_M_6
          refine lv_aload_n hx hb dX11_child_89 rfl (lv_at hl 0 rfl) ?_
          refine g_iconst X dX11_child_90 ?_
          obtain ⟨M_7, eM_7, hf⟩ := lt_some hf
          refine g_putz X w_M_6 fp_X11_156 KD_80 FR_80_43 (Or.inl rfl) dX11_child_91 (fun H locs w_M_7 => ?_)
          rw [← eM_7] at w_M_7
          refine lv_aload_n hx hb dX11_child_94 rfl (lv_at hl 0 rfl) ?_
          refine lv_dup hx hb dX11_child_95 rfl ?_
          refine g_geti X w_M_7 fg_X11_142 KD_80 FR_80_1 dX11_child_96 ?_
          refine g_iconst X dX11_child_99 ?_
          refine g_iadd X dX11_child_100 ?_
          obtain ⟨M_8, eM_8, hf⟩ := lt_some hf
          refine g_puti X w_M_7 fp_X11_142 KD_80 FR_80_1 (inR_wrap _) dX11_child_101 (fun H locs w_M_8 => ?_)
          rw [← eM_8] at w_M_8
          refine lv_aload_n hx hb dX11_child_104 rfl (lv_at hl 0 rfl) ?_
          refine g_geti X w_M_8 fg_X11_142 KD_80 FR_80_1 dX11_child_105 ?_
          refine g_iconst X dX11_child_108 ?_
          refine g_isub X dX11_child_109 ?_
          exact HR (wrap ((M_8 80 1) - 1)) M_8 _ _ _ _ (Option.some.inj hf).symm (inR_wrap _) w_M_8 dX11_child_110
        · replace hf := ite_t cd_4 hf
          refine g_iconst X dX11_child_44 ?_
          exact HR (-1) M_2 _ _ _ _ (Option.some.inj hf).symm (inL rfl) w_M_2 dX11_child_45
set_option maxRecDepth 100000 in
set_option maxHeartbeats 4000000 in
theorem k_X11_child {l : Launch} {D : va_G} {aC : Nat → ClassId} {ad : Nat → Nat} {sg : SG} (hi : Inj ad) (p1 : Int) (hp1 : inR p1) (p2 : Int) (hp2 : inR p2) (p3 : Int) (hp3 : inR p3) {M : Mem} (hM : inM M) {r : Int} {M' : Mem} (hf : f_X11_child p1 p2 p3 M = some (r, M')) : MetI l D aC ad sg yX11_child cX11_child 4 (some .int) rm_X11_child 0 0 [.ref (ad 80), .int (i2 p1), .int (i2 p2), .int (i2 p3)] M r M' := by
  refine MetI.ofI (by decide +kernel) (nle rfl) hi hM (fun p e s m args below meth c Q H0 ls X hl w hret => ?_)
  exact b_X11_child_0 X  (fun r1 M1 H locs pc ls eo hP w dg => by cases eo; exact hret H locs pc ls hP w dg) p1 hp1 p2 hp2 p3 hp3 M hf hl w
set_option maxRecDepth 100000 in
set_option maxHeartbeats 4000000 in
theorem b_X11_isChild_0 (X : CX p s m args c cX11_isChild 2 RX11 D aC ad sg A H0) {M : Mem} {o : Int} (HR : ∀ (r : Int) (H : Heap) (locs : List Loc) (pc : Nat) (ls : Array Slot), o = r → isZ r → WS D aC ad A H0 M H locs → decode cX11_isChild pc = .ok (.ireturn, 1) → W p l e rm_X11_isChild s m args below meth c H locs 0 0 Q (F0 m pc ls [.int (i2 r)])) (p1 : Int) (hp1 : inR p1) (hf : f_X11_isChild p1 M = some o) {H : Heap} {locs : List Loc} {ls : Array Slot} (hl : lv_has ls 2 [(0, .ref (ad 80)), (1, .int (i2 p1))]) (w : WS D aC ad A H0 M H locs) : W p l e rm_X11_isChild s m args below meth c H locs 0 0 Q (F0 m 0 ls []) := by
  have hx := X.1.1
  have hb := X.1.2.1
  unfold f_X11_isChild at hf
  refine lv_iload_n hx hb dX11_isChild_0 rfl (lv_at hl 1 rfl) ?_
  refine g_iconst X dX11_isChild_1 ?_
  refine lv_aload_n hx hb dX11_isChild_2 rfl (lv_at hl 0 rfl) ?_
  refine g_geti X w fg_X11_142 KD_80 FR_80_1 dX11_isChild_3 ?_
  refine g_iconst X dX11_isChild_6 ?_
  refine g_isub X dX11_isChild_7 ?_
  obtain ⟨r, hc, hf⟩ := obn_some hf
  refine g_csi (As := [.int (i2 p1), .int (i2 0), .int (i2 (wrap ((M 80 1) - 1)))]) (rest := []) X w (k_X11_within X.2.2.1 p1 hp1 0 (inL rfl) (wrap ((M 80 1) - 1)) (inR_wrap _) w.2.2 hc) lk_X11_145 ⟨rfl, rfl⟩ ⟨nle rfl, nle rfl⟩ ⟨nle rfl, nle rfl⟩ hl.1 rfl (nle rfl) dX11_isChild_8 (fun hr H locs w => ?_)
  obtain ⟨hz, hf⟩ := gd_some hf
  exact HR r _ _ _ _ (Option.some.inj hf).symm hz w dX11_isChild_11
set_option maxRecDepth 100000 in
set_option maxHeartbeats 4000000 in
theorem k_X11_isChild {l : Launch} {D : va_G} {aC : Nat → ClassId} {ad : Nat → Nat} {sg : SG} (hi : Inj ad) (p1 : Int) (hp1 : inR p1) {M : Mem} (hM : inM M) {r : Int} (hf : f_X11_isChild p1 M = some r) : MetI l D aC ad sg yX11_isChild cX11_isChild 2 (some .boolean) rm_X11_isChild 0 0 [.ref (ad 80), .int (i2 p1)] M r M := by
  refine MetI.ofZ (by decide +kernel) (nle rfl) hi hM (fun p e s m args below meth c Q H0 ls X hl w hret => ?_)
  exact b_X11_isChild_0 X  (fun r1 H locs pc ls eo hP w dg => by cases eo; exact hret H locs pc ls hP w dg) p1 hp1 hf hl w
set_option maxRecDepth 100000 in
set_option maxHeartbeats 4000000 in
theorem b_X11_mark_0 (X : CX p s m args c cX11_mark 5 RX11 D aC ad sg A H0) {o : Int × Mem} (HR : ∀ (r : Int) (M1 : Mem) (H : Heap) (locs : List Loc) (pc : Nat) (ls : Array Slot), o = (r, M1) → isZ r → WS D aC ad A H0 M1 H locs → decode cX11_mark pc = .ok (.ireturn, 1) → W p l e rm_X11_mark s m args below meth c H locs 0 0 Q (F0 m pc ls [.int (i2 r)])) (p1 : Int) (hp1 : inR p1) (p2 : Int) (hp2 : inR p2) (p3 : Int) (hp3 : inR p3) (p4 : Int) (hp4 : inR p4) (M : Mem) (hf : f_X11_mark p1 p2 p3 p4 M = some o) {H : Heap} {locs : List Loc} {ls : Array Slot} (hl : lv_has ls 5 [(0, .ref (ad 80)), (1, .int (i2 p1)), (2, .int (i2 p2)), (3, .int (i2 p3)), (4, .int (i2 p4))]) (w : WS D aC ad A H0 M H locs) : W p l e rm_X11_mark s m args below meth c H locs 0 0 Q (F0 m 0 ls []) := by
  have hx := X.1.1
  have hb := X.1.2.1
  unfold f_X11_mark at hf
  refine lv_aload_n hx hb dX11_mark_0 rfl (lv_at hl 0 rfl) ?_
  refine g_iconst X dX11_mark_1 ?_
  obtain ⟨M_2, eM_2, hf⟩ := lt_some hf
  refine g_puti X w fp_X11_139 KD_80 FR_80_0 (inL rfl) dX11_mark_2 (fun H locs w_M_2 => ?_)
  rw [← eM_2] at w_M_2
  refine lv_iload_n hx hb dX11_mark_5 rfl (lv_at hl 1 rfl) ?_
  refine g_iconst X dX11_mark_6 ?_
  refine g_iconst X dX11_mark_7 ?_
  obtain ⟨r, hc, hf⟩ := obn_some hf
  refine g_csi (As := [.int (i2 p1), .int (i2 0), .int (i2 3)]) (rest := []) X w_M_2 (k_X11_within X.2.2.1 p1 hp1 0 (inL rfl) 3 (inL rfl) w_M_2.2.2 hc) lk_X11_145 ⟨rfl, rfl⟩ ⟨nle rfl, nle rfl⟩ ⟨nle rfl, nle rfl⟩ hl.1 rfl (nle rfl) dX11_mark_8 (fun hr H locs w_M_2 => ?_)
  refine g_if_eq (tgt := 52) X hr dX11_mark_11 (by decide) (fun cd => ?_) (fun cd => ?_)
  · replace hf := ite_t cd hf
    refine g_iconst X dX11_mark_52 ?_
    exact HR 0 M_2 _ _ _ _ (Option.some.inj hf).symm (Or.inl rfl) w_M_2 dX11_mark_53
  · replace hf := ite_f cd hf
    refine lv_aload_n hx hb dX11_mark_14 rfl (lv_at hl 0 rfl) ?_
    refine lv_iload_n hx hb dX11_mark_15 rfl (lv_at hl 2 rfl) ?_
    obtain ⟨r_2, hc, hf⟩ := obn_some hf
    refine g_cvi (As := [.int (i2 p2)]) (rest := []) X w_M_2 (k_X11_isChild X.2.2.1 p2 hp2 w_M_2.2.2 hc) lk_X11_149 cl_11 KD_80 ⟨rfl, rfl⟩ ⟨nle rfl, nle rfl⟩ ⟨nle rfl, nle rfl⟩ hl.1 rfl (nle rfl) dX11_mark_16 (fun hr_2 H locs w_M_2 => ?_)
    refine g_if_eq (tgt := 52) X hr_2 dX11_mark_19 (by decide) (fun cd_2 => ?_) (fun cd_2 => ?_)
    · replace hf := ite_t cd_2 hf
      refine g_iconst X dX11_mark_52 ?_
      exact HR 0 M_2 _ _ _ _ (Option.some.inj hf).symm (Or.inl rfl) w_M_2 dX11_mark_53
    · replace hf := ite_f cd_2 hf
      refine lv_iload_n hx hb dX11_mark_22 rfl (lv_at hl 3 rfl) ?_
      refine g_iconst X dX11_mark_23 ?_
      refine g_iconst X dX11_mark_24 ?_
      obtain ⟨r_3, hc, hf⟩ := obn_some hf
      refine g_csi (As := [.int (i2 p3), .int (i2 0), .int (i2 1)]) (rest := []) X w_M_2 (k_X11_within X.2.2.1 p3 hp3 0 (inL rfl) 1 (inL rfl) w_M_2.2.2 hc) lk_X11_145 ⟨rfl, rfl⟩ ⟨nle rfl, nle rfl⟩ ⟨nle rfl, nle rfl⟩ hl.1 rfl (nle rfl) dX11_mark_25 (fun hr_3 H locs w_M_2 => ?_)
      refine g_if_eq (tgt := 52) X hr_3 dX11_mark_28 (by decide) (fun cd_3 => ?_) (fun cd_3 => ?_)
      · replace hf := ite_t cd_3 hf
        refine g_iconst X dX11_mark_52 ?_
        exact HR 0 M_2 _ _ _ _ (Option.some.inj hf).symm (Or.inl rfl) w_M_2 dX11_mark_53
      · replace hf := ite_f cd_3 hf
        refine lv_iload hx hb dX11_mark_31 (lv_at hl 4 rfl) ?_
        refine g_iconst X dX11_mark_33 ?_
        refine g_bipush X dX11_mark_34 (by decide) ?_
        obtain ⟨r_4, hc, hf⟩ := obn_some hf
        refine g_csi (As := [.int (i2 p4), .int (i2 0), .int (i2 100)]) (rest := []) X w_M_2 (k_X11_within X.2.2.1 p4 hp4 0 (inL rfl) 100 (inL rfl) w_M_2.2.2 hc) lk_X11_145 ⟨rfl, rfl⟩ ⟨nle rfl, nle rfl⟩ ⟨nle rfl, nle rfl⟩ hl.1 rfl (nle rfl) dX11_mark_36 (fun hr_4 H locs w_M_2 => ?_)
        refine g_if_eq (tgt := 52) X hr_4 dX11_mark_39 (by decide) (fun cd_4 => ?_) (fun cd_4 => ?_)
        · replace hf := ite_t cd_4 hf
          refine g_iconst X dX11_mark_52 ?_
          exact HR 0 M_2 _ _ _ _ (Option.some.inj hf).symm (Or.inl rfl) w_M_2 dX11_mark_53
        · replace hf := ite_f cd_4 hf
          refine lv_aload_n hx hb dX11_mark_42 rfl (lv_at hl 0 rfl) ?_
          refine g_geti X w_M_2 fg_X11_168 KD_80 FR_80_15 dX11_mark_43 ?_
          refine g_sipush X dX11_mark_46 (by decide) ?_
          refine g_icmp_ne (tgt := 54) X (w_M_2.2.2 _ _) (inL rfl) dX11_mark_49 (by decide) (fun cd_5 => ?_) (fun cd_5 => ?_)
          · replace hf := ite_f cd_5 hf
            refine lv_aload_n hx hb dX11_mark_54 rfl (lv_at hl 0 rfl) ?_
            refine g_getr X w_M_2 fg_X11_48 KD_80 FR_80_16 dX11_mark_55 ?_
            refine lv_aload_n hx hb dX11_mark_58 rfl (lv_at hl 0 rfl) ?_
            refine g_geti X w_M_2 fg_X11_168 KD_80 FR_80_15 dX11_mark_59 ?_
            refine lv_iload_n hx hb dX11_mark_62 rfl (lv_at hl 1 rfl) ?_
            obtain ⟨hg, hf⟩ := gd_some hf
            obtain ⟨M_3, eM_3, hf⟩ := lt_some hf
            refine g_iast X w_M_2 KD_92 (w_M_2.2.2 _ _) hg hp1 dX11_mark_63 (fun H locs w_M_3 => ?_)
            rw [← eM_3] at w_M_3
            refine lv_aload_n hx hb dX11_mark_64 rfl (lv_at hl 0 rfl) ?_
            refine g_getr X w_M_3 fg_X11_51 KD_80 FR_80_17 dX11_mark_65 ?_
            refine lv_aload_n hx hb dX11_mark_68 rfl (lv_at hl 0 rfl) ?_
            refine g_geti X w_M_3 fg_X11_168 KD_80 FR_80_15 dX11_mark_69 ?_
            refine lv_iload_n hx hb dX11_mark_72 rfl (lv_at hl 2 rfl) ?_
            obtain ⟨hg_2, hf⟩ := gd_some hf
            obtain ⟨M_4, eM_4, hf⟩ := lt_some hf
            refine g_iast X w_M_3 KD_93 (w_M_3.2.2 _ _) hg_2 hp2 dX11_mark_73 (fun H locs w_M_4 => ?_)
            rw [← eM_4] at w_M_4
            refine lv_aload_n hx hb dX11_mark_74 rfl (lv_at hl 0 rfl) ?_
            refine g_getr X w_M_4 fg_X11_54 KD_80 FR_80_18 dX11_mark_75 ?_
            refine lv_aload_n hx hb dX11_mark_78 rfl (lv_at hl 0 rfl) ?_
            refine g_geti X w_M_4 fg_X11_168 KD_80 FR_80_15 dX11_mark_79 ?_
            refine lv_iload_n hx hb dX11_mark_82 rfl (lv_at hl 3 rfl) ?_
            obtain ⟨hg_3, hf⟩ := gd_some hf
            obtain ⟨M_5, eM_5, hf⟩ := lt_some hf
            refine g_iast X w_M_4 KD_94 (w_M_4.2.2 _ _) hg_3 hp3 dX11_mark_83 (fun H locs w_M_5 => ?_)
            rw [← eM_5] at w_M_5
            refine lv_aload_n hx hb dX11_mark_84 rfl (lv_at hl 0 rfl) ?_
            refine g_getr X w_M_5 fg_X11_57 KD_80 FR_80_19 dX11_mark_85 ?_
            refine lv_aload_n hx hb dX11_mark_88 rfl (lv_at hl 0 rfl) ?_
            refine g_geti X w_M_5 fg_X11_168 KD_80 FR_80_15 dX11_mark_89 ?_
            refine lv_iload hx hb dX11_mark_92 (lv_at hl 4 rfl) ?_
            obtain ⟨hg_4, hf⟩ := gd_some hf
            obtain ⟨M_6, eM_6, hf⟩ := lt_some hf
            refine g_iast X w_M_5 KD_95 (w_M_5.2.2 _ _) hg_4 hp4 dX11_mark_94 (fun H locs w_M_6 => ?_)
            rw [← eM_6] at w_M_6
            refine lv_aload_n hx hb dX11_mark_95 rfl (lv_at hl 0 rfl) ?_
            refine g_getr X w_M_6 fg_X11_60 KD_80 FR_80_20 dX11_mark_96 ?_
            refine lv_aload_n hx hb dX11_mark_99 rfl (lv_at hl 0 rfl) ?_
            refine g_geti X w_M_6 fg_X11_168 KD_80 FR_80_15 dX11_mark_100 ?_
            refine lv_aload_n hx hb dX11_mark_103 rfl (lv_at hl 0 rfl) ?_
            refine g_geti X w_M_6 fg_X11_153 KD_80 FR_80_14 dX11_mark_104 ?_
            obtain ⟨hg_5, hf⟩ := gd_some hf
            obtain ⟨M_7, eM_7, hf⟩ := lt_some hf
            refine g_iast X w_M_6 KD_96 (w_M_6.2.2 _ _) hg_5 (w_M_6.2.2 _ _) dX11_mark_107 (fun H locs w_M_7 => ?_)
            rw [← eM_7] at w_M_7
            refine lv_aload_n hx hb dX11_mark_108 rfl (lv_at hl 0 rfl) ?_
            refine g_iconst X dX11_mark_109 ?_
            obtain ⟨M_8, eM_8, hf⟩ := lt_some hf
            refine g_putz X w_M_7 fp_X11_156 KD_80 FR_80_43 (Or.inl rfl) dX11_mark_110 (fun H locs w_M_8 => ?_)
            rw [← eM_8] at w_M_8
            refine lv_aload_n hx hb dX11_mark_113 rfl (lv_at hl 0 rfl) ?_
            refine lv_dup hx hb dX11_mark_114 rfl ?_
            refine g_geti X w_M_8 fg_X11_168 KD_80 FR_80_15 dX11_mark_115 ?_
            refine g_iconst X dX11_mark_118 ?_
            refine g_iadd X dX11_mark_119 ?_
            obtain ⟨M_9, eM_9, hf⟩ := lt_some hf
            refine g_puti X w_M_8 fp_X11_168 KD_80 FR_80_15 (inR_wrap _) dX11_mark_120 (fun H locs w_M_9 => ?_)
            rw [← eM_9] at w_M_9
            refine g_iconst X dX11_mark_123 ?_
            exact HR 1 M_9 _ _ _ _ (Option.some.inj hf).symm (Or.inr rfl) w_M_9 dX11_mark_124
          · replace hf := ite_t cd_5 hf
            refine g_iconst X dX11_mark_52 ?_
            exact HR 0 M_2 _ _ _ _ (Option.some.inj hf).symm (Or.inl rfl) w_M_2 dX11_mark_53
set_option maxRecDepth 100000 in
set_option maxHeartbeats 4000000 in
theorem k_X11_mark {l : Launch} {D : va_G} {aC : Nat → ClassId} {ad : Nat → Nat} {sg : SG} (hi : Inj ad) (p1 : Int) (hp1 : inR p1) (p2 : Int) (hp2 : inR p2) (p3 : Int) (hp3 : inR p3) (p4 : Int) (hp4 : inR p4) {M : Mem} (hM : inM M) {r : Int} {M' : Mem} (hf : f_X11_mark p1 p2 p3 p4 M = some (r, M')) : MetI l D aC ad sg yX11_mark cX11_mark 5 (some .boolean) rm_X11_mark 0 0 [.ref (ad 80), .int (i2 p1), .int (i2 p2), .int (i2 p3), .int (i2 p4)] M r M' := by
  refine MetI.ofZ (by decide +kernel) (nle rfl) hi hM (fun p e s m args below meth c Q H0 ls X hl w hret => ?_)
  exact b_X11_mark_0 X  (fun r1 M1 H locs pc ls eo hP w dg => by cases eo; exact hret H locs pc ls hP w dg) p1 hp1 p2 hp2 p3 hp3 p4 hp4 M hf hl w
set_option maxRecDepth 100000 in
set_option maxHeartbeats 4000000 in
theorem b_X11_areTwo_0 (X : CX p s m args c cX11_areTwo 3 RX11 D aC ad sg A H0) {M : Mem} {o : Int} (HR : ∀ (r : Int) (H : Heap) (locs : List Loc) (pc : Nat) (ls : Array Slot), o = r → isZ r → WS D aC ad A H0 M H locs → decode cX11_areTwo pc = .ok (.ireturn, 1) → W p l e rm_X11_areTwo s m args below meth c H locs 0 0 Q (F0 m pc ls [.int (i2 r)])) (p1 : Int) (hp1 : inR p1) (p2 : Int) (hp2 : inR p2) (hf : f_X11_areTwo p1 p2 M = some o) {H : Heap} {locs : List Loc} {ls : Array Slot} (hl : lv_has ls 3 [(0, .ref (ad 80)), (1, .int (i2 p1)), (2, .int (i2 p2))]) (w : WS D aC ad A H0 M H locs) : W p l e rm_X11_areTwo s m args below meth c H locs 0 0 Q (F0 m 0 ls []) := by
  have hx := X.1.1
  have hb := X.1.2.1
  unfold f_X11_areTwo at hf
  refine lv_aload_n hx hb dX11_areTwo_0 rfl (lv_at hl 0 rfl) ?_
  refine lv_iload_n hx hb dX11_areTwo_1 rfl (lv_at hl 1 rfl) ?_
  obtain ⟨r, hc, hf⟩ := obn_some hf
  refine g_cvi (As := [.int (i2 p1)]) (rest := []) X w (k_X11_isChild X.2.2.1 p1 hp1 w.2.2 hc) lk_X11_149 cl_11 KD_80 ⟨rfl, rfl⟩ ⟨nle rfl, nle rfl⟩ ⟨nle rfl, nle rfl⟩ hl.1 rfl (nle rfl) dX11_areTwo_2 (fun hr H locs w => ?_)
  refine g_if_eq (tgt := 25) X hr dX11_areTwo_5 (by decide) (fun cd => ?_) (fun cd => ?_)
  · replace hf := ite_t cd hf
    refine g_iconst X dX11_areTwo_25 ?_
    exact HR 0 _ _ _ _ (Option.some.inj hf).symm (Or.inl rfl) w dX11_areTwo_26
  · replace hf := ite_f cd hf
    refine lv_aload_n hx hb dX11_areTwo_8 rfl (lv_at hl 0 rfl) ?_
    refine lv_iload_n hx hb dX11_areTwo_9 rfl (lv_at hl 2 rfl) ?_
    obtain ⟨r_2, hc, hf⟩ := obn_some hf
    refine g_cvi (As := [.int (i2 p2)]) (rest := []) X w (k_X11_isChild X.2.2.1 p2 hp2 w.2.2 hc) lk_X11_149 cl_11 KD_80 ⟨rfl, rfl⟩ ⟨nle rfl, nle rfl⟩ ⟨nle rfl, nle rfl⟩ hl.1 rfl (nle rfl) dX11_areTwo_10 (fun hr_2 H locs w => ?_)
    refine g_if_eq (tgt := 25) X hr_2 dX11_areTwo_13 (by decide) (fun cd_2 => ?_) (fun cd_2 => ?_)
    · replace hf := ite_t cd_2 hf
      refine g_iconst X dX11_areTwo_25 ?_
      exact HR 0 _ _ _ _ (Option.some.inj hf).symm (Or.inl rfl) w dX11_areTwo_26
    · replace hf := ite_f cd_2 hf
      refine lv_iload_n hx hb dX11_areTwo_16 rfl (lv_at hl 1 rfl) ?_
      refine lv_iload_n hx hb dX11_areTwo_17 rfl (lv_at hl 2 rfl) ?_
      refine g_icmp_eq (tgt := 25) X hp1 hp2 dX11_areTwo_18 (by decide) (fun cd_3 => ?_) (fun cd_3 => ?_)
      · replace hf := ite_t cd_3 hf
        refine g_iconst X dX11_areTwo_25 ?_
        exact HR 0 _ _ _ _ (Option.some.inj hf).symm (Or.inl rfl) w dX11_areTwo_26
      · replace hf := ite_f cd_3 hf
        refine g_iconst X dX11_areTwo_21 ?_
        refine lv_goto (tgt := 26) hx hb dX11_areTwo_22 (by decide) ?_
        exact HR 1 _ _ _ _ (Option.some.inj hf).symm (Or.inr rfl) w dX11_areTwo_26
set_option maxRecDepth 100000 in
set_option maxHeartbeats 4000000 in
theorem k_X11_areTwo {l : Launch} {D : va_G} {aC : Nat → ClassId} {ad : Nat → Nat} {sg : SG} (hi : Inj ad) (p1 : Int) (hp1 : inR p1) (p2 : Int) (hp2 : inR p2) {M : Mem} (hM : inM M) {r : Int} (hf : f_X11_areTwo p1 p2 M = some r) : MetI l D aC ad sg yX11_areTwo cX11_areTwo 3 (some .boolean) rm_X11_areTwo 0 0 [.ref (ad 80), .int (i2 p1), .int (i2 p2)] M r M := by
  refine MetI.ofZ (by decide +kernel) (nle rfl) hi hM (fun p e s m args below meth c Q H0 ls X hl w hret => ?_)
  exact b_X11_areTwo_0 X  (fun r1 H locs pc ls eo hP w dg => by cases eo; exact hret H locs pc ls hP w dg) p1 hp1 p2 hp2 hf hl w
set_option maxRecDepth 100000 in
set_option maxHeartbeats 4000000 in
theorem b_X11_wish_0 (X : CX p s m args c cX11_wish 4 RX11 D aC ad sg A H0) {o : Int × Mem} (HR : ∀ (r : Int) (M1 : Mem) (H : Heap) (locs : List Loc) (pc : Nat) (ls : Array Slot), o = (r, M1) → isZ r → WS D aC ad A H0 M1 H locs → decode cX11_wish pc = .ok (.ireturn, 1) → W p l e rm_X11_wish s m args below meth c H locs 0 0 Q (F0 m pc ls [.int (i2 r)])) (p1 : Int) (hp1 : inR p1) (p2 : Int) (hp2 : inR p2) (p3 : Int) (hp3 : inR p3) (M : Mem) (hf : f_X11_wish p1 p2 p3 M = some o) {H : Heap} {locs : List Loc} {ls : Array Slot} (hl : lv_has ls 4 [(0, .ref (ad 80)), (1, .int (i2 p1)), (2, .int (i2 p2)), (3, .int (i2 p3))]) (w : WS D aC ad A H0 M H locs) : W p l e rm_X11_wish s m args below meth c H locs 0 0 Q (F0 m 0 ls []) := by
  have hx := X.1.1
  have hb := X.1.2.1
  unfold f_X11_wish at hf
  refine lv_aload_n hx hb dX11_wish_0 rfl (lv_at hl 0 rfl) ?_
  refine g_iconst X dX11_wish_1 ?_
  obtain ⟨M_2, eM_2, hf⟩ := lt_some hf
  refine g_puti X w fp_X11_139 KD_80 FR_80_0 (inL rfl) dX11_wish_2 (fun H locs w_M_2 => ?_)
  rw [← eM_2] at w_M_2
  refine lv_aload_n hx hb dX11_wish_5 rfl (lv_at hl 0 rfl) ?_
  refine lv_iload_n hx hb dX11_wish_6 rfl (lv_at hl 1 rfl) ?_
  obtain ⟨r, hc, hf⟩ := obn_some hf
  refine g_cvi (As := [.int (i2 p1)]) (rest := []) X w_M_2 (k_X11_isChild X.2.2.1 p1 hp1 w_M_2.2.2 hc) lk_X11_149 cl_11 KD_80 ⟨rfl, rfl⟩ ⟨nle rfl, nle rfl⟩ ⟨nle rfl, nle rfl⟩ hl.1 rfl (nle rfl) dX11_wish_7 (fun hr H locs w_M_2 => ?_)
  refine g_if_eq (tgt := 36) X hr dX11_wish_10 (by decide) (fun cd => ?_) (fun cd => ?_)
  · replace hf := ite_t cd hf
    refine g_iconst X dX11_wish_36 ?_
    exact HR 0 M_2 _ _ _ _ (Option.some.inj hf).symm (Or.inl rfl) w_M_2 dX11_wish_37
  · replace hf := ite_f cd hf
    refine lv_iload_n hx hb dX11_wish_13 rfl (lv_at hl 2 rfl) ?_
    refine g_iconst X dX11_wish_14 ?_
    refine g_iconst X dX11_wish_15 ?_
    obtain ⟨r_2, hc, hf⟩ := obn_some hf
    refine g_csi (As := [.int (i2 p2), .int (i2 0), .int (i2 2)]) (rest := []) X w_M_2 (k_X11_within X.2.2.1 p2 hp2 0 (inL rfl) 2 (inL rfl) w_M_2.2.2 hc) lk_X11_145 ⟨rfl, rfl⟩ ⟨nle rfl, nle rfl⟩ ⟨nle rfl, nle rfl⟩ hl.1 rfl (nle rfl) dX11_wish_16 (fun hr_2 H locs w_M_2 => ?_)
    refine g_if_eq (tgt := 36) X hr_2 dX11_wish_19 (by decide) (fun cd_2 => ?_) (fun cd_2 => ?_)
    · replace hf := ite_t cd_2 hf
      refine g_iconst X dX11_wish_36 ?_
      exact HR 0 M_2 _ _ _ _ (Option.some.inj hf).symm (Or.inl rfl) w_M_2 dX11_wish_37
    · replace hf := ite_f cd_2 hf
      refine lv_iload_n hx hb dX11_wish_22 rfl (lv_at hl 3 rfl) ?_
      refine g_iconst X dX11_wish_23 ?_
      refine g_icmp_eq (tgt := 38) X hp3 (inL rfl) dX11_wish_24 (by decide) (fun cd_3 => ?_) (fun cd_3 => ?_)
      · replace hf := ite_t cd_3 hf
        refine lv_aload_n hx hb dX11_wish_38 rfl (lv_at hl 0 rfl) ?_
        refine g_getr X w_M_2 fg_X11_25 KD_80 FR_80_7 dX11_wish_39 ?_
        refine g_iconst X dX11_wish_42 ?_
        refine lv_iload_n hx hb dX11_wish_43 rfl (lv_at hl 1 rfl) ?_
        refine g_imul X dX11_wish_44 ?_
        refine lv_iload_n hx hb dX11_wish_45 rfl (lv_at hl 2 rfl) ?_
        refine g_iadd X dX11_wish_46 ?_
        refine lv_iload_n hx hb dX11_wish_47 rfl (lv_at hl 3 rfl) ?_
        obtain ⟨hg, hf⟩ := gd_some hf
        obtain ⟨M_3, eM_3, hf⟩ := lt_some hf
        refine g_iast X w_M_2 KD_86 (inR_wrap _) hg hp3 dX11_wish_48 (fun H locs w_M_3 => ?_)
        rw [← eM_3] at w_M_3
        refine lv_aload_n hx hb dX11_wish_49 rfl (lv_at hl 0 rfl) ?_
        refine g_iconst X dX11_wish_50 ?_
        obtain ⟨M_4, eM_4, hf⟩ := lt_some hf
        refine g_putz X w_M_3 fp_X11_156 KD_80 FR_80_43 (Or.inl rfl) dX11_wish_51 (fun H locs w_M_4 => ?_)
        rw [← eM_4] at w_M_4
        refine g_iconst X dX11_wish_54 ?_
        exact HR 1 M_4 _ _ _ _ (Option.some.inj hf).symm (Or.inr rfl) w_M_4 dX11_wish_55
      · replace hf := ite_f cd_3 hf
        refine lv_aload_n hx hb dX11_wish_27 rfl (lv_at hl 0 rfl) ?_
        refine lv_iload_n hx hb dX11_wish_28 rfl (lv_at hl 1 rfl) ?_
        refine lv_iload_n hx hb dX11_wish_29 rfl (lv_at hl 3 rfl) ?_
        obtain ⟨r_3, hc, hf⟩ := obn_some hf
        refine g_cvi (As := [.int (i2 p1), .int (i2 p3)]) (rest := []) X w_M_2 (k_X11_areTwo X.2.2.1 p1 hp1 p3 hp3 w_M_2.2.2 hc) lk_X11_160 cl_11 KD_80 ⟨rfl, rfl⟩ ⟨nle rfl, nle rfl⟩ ⟨nle rfl, nle rfl⟩ hl.1 rfl (nle rfl) dX11_wish_30 (fun hr_3 H locs w_M_2 => ?_)
        refine g_if_ne (tgt := 38) X hr_3 dX11_wish_33 (by decide) (fun cd_4 => ?_) (fun cd_4 => ?_)
        · replace hf := ite_f cd_4 hf
          refine lv_aload_n hx hb dX11_wish_38 rfl (lv_at hl 0 rfl) ?_
          refine g_getr X w_M_2 fg_X11_25 KD_80 FR_80_7 dX11_wish_39 ?_
          refine g_iconst X dX11_wish_42 ?_
          refine lv_iload_n hx hb dX11_wish_43 rfl (lv_at hl 1 rfl) ?_
          refine g_imul X dX11_wish_44 ?_
          refine lv_iload_n hx hb dX11_wish_45 rfl (lv_at hl 2 rfl) ?_
          refine g_iadd X dX11_wish_46 ?_
          refine lv_iload_n hx hb dX11_wish_47 rfl (lv_at hl 3 rfl) ?_
          obtain ⟨hg_2, hf⟩ := gd_some hf
          obtain ⟨M_5, eM_5, hf⟩ := lt_some hf
          refine g_iast X w_M_2 KD_86 (inR_wrap _) hg_2 hp3 dX11_wish_48 (fun H locs w_M_5 => ?_)
          rw [← eM_5] at w_M_5
          refine lv_aload_n hx hb dX11_wish_49 rfl (lv_at hl 0 rfl) ?_
          refine g_iconst X dX11_wish_50 ?_
          obtain ⟨M_6, eM_6, hf⟩ := lt_some hf
          refine g_putz X w_M_5 fp_X11_156 KD_80 FR_80_43 (Or.inl rfl) dX11_wish_51 (fun H locs w_M_6 => ?_)
          rw [← eM_6] at w_M_6
          refine g_iconst X dX11_wish_54 ?_
          exact HR 1 M_6 _ _ _ _ (Option.some.inj hf).symm (Or.inr rfl) w_M_6 dX11_wish_55
        · replace hf := ite_t cd_4 hf
          refine g_iconst X dX11_wish_36 ?_
          exact HR 0 M_2 _ _ _ _ (Option.some.inj hf).symm (Or.inl rfl) w_M_2 dX11_wish_37
set_option maxRecDepth 100000 in
set_option maxHeartbeats 4000000 in
theorem k_X11_wish {l : Launch} {D : va_G} {aC : Nat → ClassId} {ad : Nat → Nat} {sg : SG} (hi : Inj ad) (p1 : Int) (hp1 : inR p1) (p2 : Int) (hp2 : inR p2) (p3 : Int) (hp3 : inR p3) {M : Mem} (hM : inM M) {r : Int} {M' : Mem} (hf : f_X11_wish p1 p2 p3 M = some (r, M')) : MetI l D aC ad sg yX11_wish cX11_wish 4 (some .boolean) rm_X11_wish 0 0 [.ref (ad 80), .int (i2 p1), .int (i2 p2), .int (i2 p3)] M r M' := by
  refine MetI.ofZ (by decide +kernel) (nle rfl) hi hM (fun p e s m args below meth c Q H0 ls X hl w hret => ?_)
  exact b_X11_wish_0 X  (fun r1 M1 H locs pc ls eo hP w dg => by cases eo; exact hret H locs pc ls hP w dg) p1 hp1 p2 hp2 p3 hp3 M hf hl w
set_option maxRecDepth 100000 in
set_option maxHeartbeats 4000000 in
theorem b_X11_turns_0 (X : CX p s m args c cX11_turns 5 RX11 D aC ad sg A H0) (p1 : Nat) (hp1 : KD[p1]? = some (.inr (1, aln p1))) {o : Int × Mem} (HR : ∀ (r : Int) (M1 : Mem) (H : Heap) (locs : List Loc) (pc : Nat) (ls : Array Slot), o = (r, M1) → isZ r → WS D aC ad A H0 M1 H locs → decode cX11_turns pc = .ok (.ireturn, 1) → W p l e rm_X11_turns s m args below meth c H locs 0 0 Q (F0 m pc ls [.int (i2 r)])) (p2 : Int) (hp2 : inR p2) (p3 : Int) (hp3 : inR p3) (p4 : Int) (hp4 : inR p4) (M : Mem) (hf : f_X11_turns p1 p2 p3 p4 M = some o) {H : Heap} {locs : List Loc} {ls : Array Slot} (hl : lv_has ls 5 [(0, .ref (ad 80)), (1, .ref (ad p1)), (2, .int (i2 p2)), (3, .int (i2 p3)), (4, .int (i2 p4))]) (w : WS D aC ad A H0 M H locs) : W p l e rm_X11_turns s m args below meth c H locs 0 0 Q (F0 m 0 ls []) := by
  have hx := X.1.1
  have hb := X.1.2.1
  unfold f_X11_turns at hf
  refine lv_aload_n hx hb dX11_turns_0 rfl (lv_at hl 1 rfl) ?_
  refine g_bipush X dX11_turns_1 (by decide) ?_
  refine lv_iload_n hx hb dX11_turns_3 rfl (lv_at hl 2 rfl) ?_
  refine g_imul X dX11_turns_4 ?_
  refine lv_iload_n hx hb dX11_turns_5 rfl (lv_at hl 3 rfl) ?_
  refine g_iadd X dX11_turns_6 ?_
  obtain ⟨hg, hf⟩ := gd_some hf
  refine g_zald X w hp1 (inR_wrap _) hg dX11_turns_7 ?_
  refine lv_iload hx hb dX11_turns_8 (lv_at hl 4 rfl) ?_
  refine g_icmp_ne (tgt := 15) X (w.2.2 _ _) hp4 dX11_turns_10 (by decide) (fun cd => ?_) (fun cd => ?_)
  · replace hf := ite_f cd hf
    refine lv_aload_n hx hb dX11_turns_15 rfl (lv_at hl 0 rfl) ?_
    refine g_iconst X dX11_turns_16 ?_
    obtain ⟨M_2, eM_2, hf⟩ := lt_some hf
    refine g_putz X w fp_X11_156 KD_80 FR_80_43 (Or.inl rfl) dX11_turns_17 (fun H locs w_M_2 => ?_)
    rw [← eM_2] at w_M_2
    refine lv_aload_n hx hb dX11_turns_20 rfl (lv_at hl 1 rfl) ?_
    refine g_bipush X dX11_turns_21 (by decide) ?_
    refine lv_iload_n hx hb dX11_turns_23 rfl (lv_at hl 2 rfl) ?_
    refine g_imul X dX11_turns_24 ?_
    refine lv_iload_n hx hb dX11_turns_25 rfl (lv_at hl 3 rfl) ?_
    refine g_iadd X dX11_turns_26 ?_
    refine lv_iload hx hb dX11_turns_27 (lv_at hl 4 rfl) ?_
    obtain ⟨hg_2, hf⟩ := gd_some hf
    obtain ⟨hz, hf⟩ := gd_some hf
    obtain ⟨M_3, eM_3, hf⟩ := lt_some hf
    refine g_zast X w_M_2 hp1 (inR_wrap _) hg_2 hz dX11_turns_29 (fun H locs w_M_3 => ?_)
    rw [← eM_3] at w_M_3
    refine lv_aload_n hx hb dX11_turns_30 rfl (lv_at hl 1 rfl) ?_
    refine g_bipush X dX11_turns_31 (by decide) ?_
    refine lv_iload_n hx hb dX11_turns_33 rfl (lv_at hl 3 rfl) ?_
    refine g_imul X dX11_turns_34 ?_
    refine lv_iload_n hx hb dX11_turns_35 rfl (lv_at hl 2 rfl) ?_
    refine g_iadd X dX11_turns_36 ?_
    refine lv_iload hx hb dX11_turns_37 (lv_at hl 4 rfl) ?_
    obtain ⟨hg_3, hf⟩ := gd_some hf
    obtain ⟨hz_2, hf⟩ := gd_some hf
    obtain ⟨M_4, eM_4, hf⟩ := lt_some hf
    refine g_zast X w_M_3 hp1 (inR_wrap _) hg_3 hz_2 dX11_turns_39 (fun H locs w_M_4 => ?_)
    rw [← eM_4] at w_M_4
    refine g_iconst X dX11_turns_40 ?_
    exact HR 1 M_4 _ _ _ _ (Option.some.inj hf).symm (Or.inr rfl) w_M_4 dX11_turns_41
  · replace hf := ite_t cd hf
    refine g_iconst X dX11_turns_13 ?_
    exact HR 0 M _ _ _ _ (Option.some.inj hf).symm (Or.inl rfl) w dX11_turns_14
set_option maxRecDepth 100000 in
set_option maxHeartbeats 4000000 in
theorem k_X11_turns {l : Launch} {D : va_G} {aC : Nat → ClassId} {ad : Nat → Nat} {sg : SG} (hi : Inj ad) (p1 : Nat) (hp1 : KD[p1]? = some (.inr (1, aln p1))) (p2 : Int) (hp2 : inR p2) (p3 : Int) (hp3 : inR p3) (p4 : Int) (hp4 : inR p4) {M : Mem} (hM : inM M) {r : Int} {M' : Mem} (hf : f_X11_turns p1 p2 p3 p4 M = some (r, M')) : MetI l D aC ad sg yX11_turns cX11_turns 5 (some .boolean) rm_X11_turns 0 0 [.ref (ad 80), .ref (ad p1), .int (i2 p2), .int (i2 p3), .int (i2 p4)] M r M' := by
  refine MetI.ofZ (by decide +kernel) (nle rfl) hi hM (fun p e s m args below meth c Q H0 ls X hl w hret => ?_)
  exact b_X11_turns_0 X p1 hp1 (fun r1 M1 H locs pc ls eo hP w dg => by cases eo; exact hret H locs pc ls hP w dg) p2 hp2 p3 hp3 p4 hp4 M hf hl w
set_option maxRecDepth 100000 in
set_option maxHeartbeats 4000000 in
theorem b_X11_bar_0 (X : CX p s m args c cX11_bar 4 RX11 D aC ad sg A H0) {o : Int × Mem} (HR : ∀ (r : Int) (M1 : Mem) (H : Heap) (locs : List Loc) (pc : Nat) (ls : Array Slot), o = (r, M1) → isZ r → WS D aC ad A H0 M1 H locs → decode cX11_bar pc = .ok (.ireturn, 1) → W p l e rm_X11_bar s m args below meth c H locs 0 0 Q (F0 m pc ls [.int (i2 r)])) (p1 : Int) (hp1 : inR p1) (p2 : Int) (hp2 : inR p2) (p3 : Int) (hp3 : inR p3) (M : Mem) (hf : f_X11_bar p1 p2 p3 M = some o) {H : Heap} {locs : List Loc} {ls : Array Slot} (hl : lv_has ls 4 [(0, .ref (ad 80)), (1, .int (i2 p1)), (2, .int (i2 p2)), (3, .int (i2 p3))]) (w : WS D aC ad A H0 M H locs) : W p l e rm_X11_bar s m args below meth c H locs 0 0 Q (F0 m 0 ls []) := by
  have hx := X.1.1
  have hb := X.1.2.1
  unfold f_X11_bar at hf
  refine lv_aload_n hx hb dX11_bar_0 rfl (lv_at hl 0 rfl) ?_
  refine g_iconst X dX11_bar_1 ?_
  obtain ⟨M_2, eM_2, hf⟩ := lt_some hf
  refine g_puti X w fp_X11_139 KD_80 FR_80_0 (inL rfl) dX11_bar_2 (fun H locs w_M_2 => ?_)
  rw [← eM_2] at w_M_2
  refine lv_aload_n hx hb dX11_bar_5 rfl (lv_at hl 0 rfl) ?_
  refine lv_iload_n hx hb dX11_bar_6 rfl (lv_at hl 1 rfl) ?_
  refine lv_iload_n hx hb dX11_bar_7 rfl (lv_at hl 2 rfl) ?_
  obtain ⟨r, hc, hf⟩ := obn_some hf
  refine g_cvi (As := [.int (i2 p1), .int (i2 p2)]) (rest := []) X w_M_2 (k_X11_areTwo X.2.2.1 p1 hp1 p2 hp2 w_M_2.2.2 hc) lk_X11_160 cl_11 KD_80 ⟨rfl, rfl⟩ ⟨nle rfl, nle rfl⟩ ⟨nle rfl, nle rfl⟩ hl.1 rfl (nle rfl) dX11_bar_8 (fun hr H locs w_M_2 => ?_)
  refine g_if_eq (tgt := 32) X hr dX11_bar_11 (by decide) (fun cd => ?_) (fun cd => ?_)
  · replace hf := ite_t cd hf
    refine g_iconst X dX11_bar_32 ?_
    exact HR 0 M_2 _ _ _ _ (Option.some.inj hf).symm (Or.inl rfl) w_M_2 dX11_bar_33
  · replace hf := ite_f cd hf
    refine lv_aload_n hx hb dX11_bar_14 rfl (lv_at hl 0 rfl) ?_
    refine lv_aload_n hx hb dX11_bar_15 rfl (lv_at hl 0 rfl) ?_
    refine g_getr X w_M_2 fg_X11_31 KD_80 FR_80_9 dX11_bar_16 ?_
    refine lv_iload_n hx hb dX11_bar_19 rfl (lv_at hl 1 rfl) ?_
    refine lv_iload_n hx hb dX11_bar_20 rfl (lv_at hl 2 rfl) ?_
    refine lv_iload_n hx hb dX11_bar_21 rfl (lv_at hl 3 rfl) ?_
    obtain ⟨r_2, M_3, hc, hf⟩ := bnd_some hf
    refine g_cvi (As := [.ref (ad 88), .int (i2 p1), .int (i2 p2), .int (i2 p3)]) (rest := []) X w_M_2 (k_X11_turns X.2.2.1 88 KA_88 p1 hp1 p2 hp2 p3 hp3 w_M_2.2.2 hc) lk_X11_164 cl_11 KD_80 ⟨rfl, rfl⟩ ⟨nle rfl, nle rfl⟩ ⟨nle rfl, nle rfl⟩ hl.1 rfl (nle rfl) dX11_bar_22 (fun hr_2 H locs w_M_3 => ?_)
    refine g_if_eq (tgt := 32) X hr_2 dX11_bar_25 (by decide) (fun cd_2 => ?_) (fun cd_2 => ?_)
    · replace hf := ite_t cd_2 hf
      refine g_iconst X dX11_bar_32 ?_
      exact HR 0 M_3 _ _ _ _ (Option.some.inj hf).symm (Or.inl rfl) w_M_3 dX11_bar_33
    · replace hf := ite_f cd_2 hf
      refine g_iconst X dX11_bar_28 ?_
      refine lv_goto (tgt := 33) hx hb dX11_bar_29 (by decide) ?_
      exact HR 1 M_3 _ _ _ _ (Option.some.inj hf).symm (Or.inr rfl) w_M_3 dX11_bar_33
set_option maxRecDepth 100000 in
set_option maxHeartbeats 4000000 in
theorem k_X11_bar {l : Launch} {D : va_G} {aC : Nat → ClassId} {ad : Nat → Nat} {sg : SG} (hi : Inj ad) (p1 : Int) (hp1 : inR p1) (p2 : Int) (hp2 : inR p2) (p3 : Int) (hp3 : inR p3) {M : Mem} (hM : inM M) {r : Int} {M' : Mem} (hf : f_X11_bar p1 p2 p3 M = some (r, M')) : MetI l D aC ad sg yX11_bar cX11_bar 4 (some .boolean) rm_X11_bar 0 0 [.ref (ad 80), .int (i2 p1), .int (i2 p2), .int (i2 p3)] M r M' := by
  refine MetI.ofZ (by decide +kernel) (nle rfl) hi hM (fun p e s m args below meth c Q H0 ls X hl w hret => ?_)
  exact b_X11_bar_0 X  (fun r1 M1 H locs pc ls eo hP w dg => by cases eo; exact hret H locs pc ls hP w dg) p1 hp1 p2 hp2 p3 hp3 M hf hl w
set_option maxRecDepth 100000 in
set_option maxHeartbeats 4000000 in
theorem b_X11_twins_0 (X : CX p s m args c cX11_twins 4 RX11 D aC ad sg A H0) {o : Int × Mem} (HR : ∀ (r : Int) (M1 : Mem) (H : Heap) (locs : List Loc) (pc : Nat) (ls : Array Slot), o = (r, M1) → isZ r → WS D aC ad A H0 M1 H locs → decode cX11_twins pc = .ok (.ireturn, 1) → W p l e rm_X11_twins s m args below meth c H locs 0 0 Q (F0 m pc ls [.int (i2 r)])) (p1 : Int) (hp1 : inR p1) (p2 : Int) (hp2 : inR p2) (p3 : Int) (hp3 : inR p3) (M : Mem) (hf : f_X11_twins p1 p2 p3 M = some o) {H : Heap} {locs : List Loc} {ls : Array Slot} (hl : lv_has ls 4 [(0, .ref (ad 80)), (1, .int (i2 p1)), (2, .int (i2 p2)), (3, .int (i2 p3))]) (w : WS D aC ad A H0 M H locs) : W p l e rm_X11_twins s m args below meth c H locs 0 0 Q (F0 m 0 ls []) := by
  have hx := X.1.1
  have hb := X.1.2.1
  unfold f_X11_twins at hf
  refine lv_aload_n hx hb dX11_twins_0 rfl (lv_at hl 0 rfl) ?_
  refine g_iconst X dX11_twins_1 ?_
  obtain ⟨M_2, eM_2, hf⟩ := lt_some hf
  refine g_puti X w fp_X11_139 KD_80 FR_80_0 (inL rfl) dX11_twins_2 (fun H locs w_M_2 => ?_)
  rw [← eM_2] at w_M_2
  refine lv_aload_n hx hb dX11_twins_5 rfl (lv_at hl 0 rfl) ?_
  refine lv_iload_n hx hb dX11_twins_6 rfl (lv_at hl 1 rfl) ?_
  refine lv_iload_n hx hb dX11_twins_7 rfl (lv_at hl 2 rfl) ?_
  obtain ⟨r, hc, hf⟩ := obn_some hf
  refine g_cvi (As := [.int (i2 p1), .int (i2 p2)]) (rest := []) X w_M_2 (k_X11_areTwo X.2.2.1 p1 hp1 p2 hp2 w_M_2.2.2 hc) lk_X11_160 cl_11 KD_80 ⟨rfl, rfl⟩ ⟨nle rfl, nle rfl⟩ ⟨nle rfl, nle rfl⟩ hl.1 rfl (nle rfl) dX11_twins_8 (fun hr H locs w_M_2 => ?_)
  refine g_if_eq (tgt := 32) X hr dX11_twins_11 (by decide) (fun cd => ?_) (fun cd => ?_)
  · replace hf := ite_t cd hf
    refine g_iconst X dX11_twins_32 ?_
    exact HR 0 M_2 _ _ _ _ (Option.some.inj hf).symm (Or.inl rfl) w_M_2 dX11_twins_33
  · replace hf := ite_f cd hf
    refine lv_aload_n hx hb dX11_twins_14 rfl (lv_at hl 0 rfl) ?_
    refine lv_aload_n hx hb dX11_twins_15 rfl (lv_at hl 0 rfl) ?_
    refine g_getr X w_M_2 fg_X11_35 KD_80 FR_80_10 dX11_twins_16 ?_
    refine lv_iload_n hx hb dX11_twins_19 rfl (lv_at hl 1 rfl) ?_
    refine lv_iload_n hx hb dX11_twins_20 rfl (lv_at hl 2 rfl) ?_
    refine lv_iload_n hx hb dX11_twins_21 rfl (lv_at hl 3 rfl) ?_
    obtain ⟨r_2, M_3, hc, hf⟩ := bnd_some hf
    refine g_cvi (As := [.ref (ad 89), .int (i2 p1), .int (i2 p2), .int (i2 p3)]) (rest := []) X w_M_2 (k_X11_turns X.2.2.1 89 KA_89 p1 hp1 p2 hp2 p3 hp3 w_M_2.2.2 hc) lk_X11_164 cl_11 KD_80 ⟨rfl, rfl⟩ ⟨nle rfl, nle rfl⟩ ⟨nle rfl, nle rfl⟩ hl.1 rfl (nle rfl) dX11_twins_22 (fun hr_2 H locs w_M_3 => ?_)
    refine g_if_eq (tgt := 32) X hr_2 dX11_twins_25 (by decide) (fun cd_2 => ?_) (fun cd_2 => ?_)
    · replace hf := ite_t cd_2 hf
      refine g_iconst X dX11_twins_32 ?_
      exact HR 0 M_3 _ _ _ _ (Option.some.inj hf).symm (Or.inl rfl) w_M_3 dX11_twins_33
    · replace hf := ite_f cd_2 hf
      refine g_iconst X dX11_twins_28 ?_
      refine lv_goto (tgt := 33) hx hb dX11_twins_29 (by decide) ?_
      exact HR 1 M_3 _ _ _ _ (Option.some.inj hf).symm (Or.inr rfl) w_M_3 dX11_twins_33
set_option maxRecDepth 100000 in
set_option maxHeartbeats 4000000 in
theorem k_X11_twins {l : Launch} {D : va_G} {aC : Nat → ClassId} {ad : Nat → Nat} {sg : SG} (hi : Inj ad) (p1 : Int) (hp1 : inR p1) (p2 : Int) (hp2 : inR p2) (p3 : Int) (hp3 : inR p3) {M : Mem} (hM : inM M) {r : Int} {M' : Mem} (hf : f_X11_twins p1 p2 p3 M = some (r, M')) : MetI l D aC ad sg yX11_twins cX11_twins 4 (some .boolean) rm_X11_twins 0 0 [.ref (ad 80), .int (i2 p1), .int (i2 p2), .int (i2 p3)] M r M' := by
  refine MetI.ofZ (by decide +kernel) (nle rfl) hi hM (fun p e s m args below meth c Q H0 ls X hl w hret => ?_)
  exact b_X11_twins_0 X  (fun r1 M1 H locs pc ls eo hP w dg => by cases eo; exact hret H locs pc ls hP w dg) p1 hp1 p2 hp2 p3 hp3 M hf hl w
set_option maxRecDepth 100000 in
set_option maxHeartbeats 4000000 in
theorem b_X11_not_0 (X : CX p s m args c cX11_not 4 RX11 D aC ad sg A H0) {o : Int × Mem} (HR : ∀ (r : Int) (M1 : Mem) (H : Heap) (locs : List Loc) (pc : Nat) (ls : Array Slot), o = (r, M1) → isZ r → WS D aC ad A H0 M1 H locs → decode cX11_not pc = .ok (.ireturn, 1) → W p l e rm_X11_not s m args below meth c H locs 0 0 Q (F0 m pc ls [.int (i2 r)])) (p1 : Int) (hp1 : inR p1) (p2 : Int) (hp2 : inR p2) (p3 : Int) (hp3 : inR p3) (M : Mem) (hf : f_X11_not p1 p2 p3 M = some o) {H : Heap} {locs : List Loc} {ls : Array Slot} (hl : lv_has ls 4 [(0, .ref (ad 80)), (1, .int (i2 p1)), (2, .int (i2 p2)), (3, .int (i2 p3))]) (w : WS D aC ad A H0 M H locs) : W p l e rm_X11_not s m args below meth c H locs 0 0 Q (F0 m 0 ls []) := by
  have hx := X.1.1
  have hb := X.1.2.1
  unfold f_X11_not at hf
  refine lv_aload_n hx hb dX11_not_0 rfl (lv_at hl 0 rfl) ?_
  refine g_iconst X dX11_not_1 ?_
  obtain ⟨M_2, eM_2, hf⟩ := lt_some hf
  refine g_puti X w fp_X11_139 KD_80 FR_80_0 (inL rfl) dX11_not_2 (fun H locs w_M_2 => ?_)
  rw [← eM_2] at w_M_2
  refine lv_aload_n hx hb dX11_not_5 rfl (lv_at hl 0 rfl) ?_
  refine lv_iload_n hx hb dX11_not_6 rfl (lv_at hl 1 rfl) ?_
  obtain ⟨r, hc, hf⟩ := obn_some hf
  refine g_cvi (As := [.int (i2 p1)]) (rest := []) X w_M_2 (k_X11_isChild X.2.2.1 p1 hp1 w_M_2.2.2 hc) lk_X11_149 cl_11 KD_80 ⟨rfl, rfl⟩ ⟨nle rfl, nle rfl⟩ ⟨nle rfl, nle rfl⟩ hl.1 rfl (nle rfl) dX11_not_7 (fun hr H locs w_M_2 => ?_)
  refine g_if_eq (tgt := 36) X hr dX11_not_10 (by decide) (fun cd => ?_) (fun cd => ?_)
  · replace hf := ite_t cd hf
    refine g_iconst X dX11_not_36 ?_
    exact HR 0 M_2 _ _ _ _ (Option.some.inj hf).symm (Or.inl rfl) w_M_2 dX11_not_37
  · replace hf := ite_f cd hf
    refine lv_iload_n hx hb dX11_not_13 rfl (lv_at hl 2 rfl) ?_
    refine g_iconst X dX11_not_14 ?_
    refine g_iconst X dX11_not_15 ?_
    obtain ⟨r_2, hc, hf⟩ := obn_some hf
    refine g_csi (As := [.int (i2 p2), .int (i2 0), .int (i2 2)]) (rest := []) X w_M_2 (k_X11_within X.2.2.1 p2 hp2 0 (inL rfl) 2 (inL rfl) w_M_2.2.2 hc) lk_X11_145 ⟨rfl, rfl⟩ ⟨nle rfl, nle rfl⟩ ⟨nle rfl, nle rfl⟩ hl.1 rfl (nle rfl) dX11_not_16 (fun hr_2 H locs w_M_2 => ?_)
    refine g_if_eq (tgt := 36) X hr_2 dX11_not_19 (by decide) (fun cd_2 => ?_) (fun cd_2 => ?_)
    · replace hf := ite_t cd_2 hf
      refine g_iconst X dX11_not_36 ?_
      exact HR 0 M_2 _ _ _ _ (Option.some.inj hf).symm (Or.inl rfl) w_M_2 dX11_not_37
    · replace hf := ite_f cd_2 hf
      refine lv_aload_n hx hb dX11_not_22 rfl (lv_at hl 0 rfl) ?_
      refine g_getr X w_M_2 fg_X11_38 KD_80 FR_80_11 dX11_not_23 ?_
      refine g_iconst X dX11_not_26 ?_
      refine lv_iload_n hx hb dX11_not_27 rfl (lv_at hl 1 rfl) ?_
      refine g_imul X dX11_not_28 ?_
      refine lv_iload_n hx hb dX11_not_29 rfl (lv_at hl 2 rfl) ?_
      refine g_iadd X dX11_not_30 ?_
      obtain ⟨hg, hf⟩ := gd_some hf
      refine g_zald X w_M_2 KD_90 (inR_wrap _) hg dX11_not_31 ?_
      refine lv_iload_n hx hb dX11_not_32 rfl (lv_at hl 3 rfl) ?_
      refine g_icmp_ne (tgt := 38) X (w_M_2.2.2 _ _) hp3 dX11_not_33 (by decide) (fun cd_3 => ?_) (fun cd_3 => ?_)
      · replace hf := ite_f cd_3 hf
        refine lv_aload_n hx hb dX11_not_38 rfl (lv_at hl 0 rfl) ?_
        refine g_getr X w_M_2 fg_X11_38 KD_80 FR_80_11 dX11_not_39 ?_
        refine g_iconst X dX11_not_42 ?_
        refine lv_iload_n hx hb dX11_not_43 rfl (lv_at hl 1 rfl) ?_
        refine g_imul X dX11_not_44 ?_
        refine lv_iload_n hx hb dX11_not_45 rfl (lv_at hl 2 rfl) ?_
        refine g_iadd X dX11_not_46 ?_
        refine lv_iload_n hx hb dX11_not_47 rfl (lv_at hl 3 rfl) ?_
        obtain ⟨hg_2, hf⟩ := gd_some hf
        obtain ⟨hz, hf⟩ := gd_some hf
        obtain ⟨M_3, eM_3, hf⟩ := lt_some hf
        refine g_zast X w_M_2 KD_90 (inR_wrap _) hg_2 hz dX11_not_48 (fun H locs w_M_3 => ?_)
        rw [← eM_3] at w_M_3
        refine lv_aload_n hx hb dX11_not_49 rfl (lv_at hl 0 rfl) ?_
        refine g_iconst X dX11_not_50 ?_
        obtain ⟨M_4, eM_4, hf⟩ := lt_some hf
        refine g_putz X w_M_3 fp_X11_156 KD_80 FR_80_43 (Or.inl rfl) dX11_not_51 (fun H locs w_M_4 => ?_)
        rw [← eM_4] at w_M_4
        refine g_iconst X dX11_not_54 ?_
        exact HR 1 M_4 _ _ _ _ (Option.some.inj hf).symm (Or.inr rfl) w_M_4 dX11_not_55
      · replace hf := ite_t cd_3 hf
        refine g_iconst X dX11_not_36 ?_
        exact HR 0 M_2 _ _ _ _ (Option.some.inj hf).symm (Or.inl rfl) w_M_2 dX11_not_37
set_option maxRecDepth 100000 in
set_option maxHeartbeats 4000000 in
theorem k_X11_not {l : Launch} {D : va_G} {aC : Nat → ClassId} {ad : Nat → Nat} {sg : SG} (hi : Inj ad) (p1 : Int) (hp1 : inR p1) (p2 : Int) (hp2 : inR p2) (p3 : Int) (hp3 : inR p3) {M : Mem} (hM : inM M) {r : Int} {M' : Mem} (hf : f_X11_not p1 p2 p3 M = some (r, M')) : MetI l D aC ad sg yX11_not cX11_not 4 (some .boolean) rm_X11_not 0 0 [.ref (ad 80), .int (i2 p1), .int (i2 p2), .int (i2 p3)] M r M' := by
  refine MetI.ofZ (by decide +kernel) (nle rfl) hi hM (fun p e s m args below meth c Q H0 ls X hl w hret => ?_)
  exact b_X11_not_0 X  (fun r1 M1 H locs pc ls eo hP w dg => by cases eo; exact hret H locs pc ls hP w dg) p1 hp1 p2 hp2 p3 hp3 M hf hl w
set_option maxRecDepth 100000 in
set_option maxHeartbeats 4000000 in
theorem b_X11_classes_s18 (X : CX p s m args c cX11_classes 3 RX11 D aC ad sg A H0) (v1 : Int) (hv1 : inR v1) {M : Mem} {o : (Int) ⊕ ((Int) ⊕ (Int × Mem))} (HC : ∀ (y2 : Int) (H : Heap) (locs : List Loc) (ls : Array Slot), o = .inl y2 → inR y2 → lv_has ls 3 [(0, .ref (ad 80)), (1, .int (i2 v1)), (2, .int (i2 y2))] → WS D aC ad A H0 M H locs → W p l e rm_X11_classes s m args below meth c H locs 0 0 Q (F0 m 18 ls [])) (HE : ∀ (y2 : Int) (H : Heap) (locs : List Loc) (ls : Array Slot), o = .inr (.inl y2) → inR y2 → lv_has ls 3 [(0, .ref (ad 80)), (1, .int (i2 v1)), (2, .int (i2 y2))] → WS D aC ad A H0 M H locs → W p l e rm_X11_classes s m args below meth c H locs 0 0 Q (F0 m 44 ls [])) (HR : ∀ (r : Int) (M1 : Mem) (H : Heap) (locs : List Loc) (pc : Nat) (ls : Array Slot), o = .inr (.inr (r, M1)) → isZ r → WS D aC ad A H0 M1 H locs → decode cX11_classes pc = .ok (.ireturn, 1) → W p l e rm_X11_classes s m args below meth c H locs 0 0 Q (F0 m pc ls [.int (i2 r)])) (v2 : Int) (hv2 : inR v2) (hf : f_X11_classes_s18 v1 M v2 = some o) {H : Heap} {locs : List Loc} {ls : Array Slot} (hl : lv_has ls 3 [(0, .ref (ad 80)), (1, .int (i2 v1)), (2, .int (i2 v2))]) (w : WS D aC ad A H0 M H locs) : W p l e rm_X11_classes s m args below meth c H locs 0 0 Q (F0 m 18 ls []) := by
  have hx := X.1.1
  have hb := X.1.2.1
  unfold f_X11_classes_s18 at hf
  refine lv_iload_n hx hb dX11_classes_18 rfl (lv_at hl 2 rfl) ?_
  refine lv_aload_n hx hb dX11_classes_19 rfl (lv_at hl 0 rfl) ?_
  refine g_geti X w fg_X11_142 KD_80 FR_80_1 dX11_classes_20 ?_
  refine g_icmp_ge (tgt := 44) X hv2 (w.2.2 _ _) dX11_classes_23 (by decide) (fun cd => ?_) (fun cd => ?_)
  · replace hf := ite_t cd hf
    exact HE v2 _ _ _ (Option.some.inj hf).symm hv2 hl w
  · replace hf := ite_f cd hf
    refine lv_aload_n hx hb dX11_classes_26 rfl (lv_at hl 0 rfl) ?_
    refine g_getr X w fg_X11_106 KD_80 FR_80_47 dX11_classes_27 ?_
    refine lv_iload_n hx hb dX11_classes_30 rfl (lv_at hl 2 rfl) ?_
    obtain ⟨hg, hf⟩ := gd_some hf
    refine g_iald X w KD_110 hv2 hg dX11_classes_31 ?_
    refine lv_iload_n hx hb dX11_classes_32 rfl (lv_at hl 1 rfl) ?_
    refine g_icmp_lt (tgt := 38) X (w.2.2 _ _) hv1 dX11_classes_33 (by decide) (fun cd_2 => ?_) (fun cd_2 => ?_)
    · replace hf := ite_t cd_2 hf
      obtain ⟨v2_2, ev2_2, hf⟩ := lt_some hf
      have hv2_2 : inR v2_2 := inR_of ev2_2 (inR_wrap _)
      refine lv_iinc (v := i2 v2_2) (lv' := [(2, .int (i2 v2_2)), (0, .ref (ad 80)), (1, .int (i2 v1))]) hx hb dX11_classes_38 hl (k := 2) rfl (by rw [ev2_2]; exact i2_add _ _) (by decide) rfl (fun ls hl => ?_)
      refine lv_goto (tgt := 18) hx hb dX11_classes_41 (by decide) ?_
      exact HC v2_2 _ _ _ (Option.some.inj hf).symm hv2_2 (lv_sub hl [1, 2, 0] rfl) w
    · replace hf := ite_f cd_2 hf
      refine g_iconst X dX11_classes_36 ?_
      exact HR 0 M _ _ _ _ (Option.some.inj hf).symm (Or.inl rfl) w dX11_classes_37
set_option maxRecDepth 100000 in
set_option maxHeartbeats 4000000 in
theorem l_X11_classes_18 (X : CX p s m args c cX11_classes 3 RX11 D aC ad sg A H0) (v1 : Int) (hv1 : inR v1) {M : Mem} {out : (Int) ⊕ (Int × Mem)} (HE : ∀ (y2 : Int) (H : Heap) (locs : List Loc) (ls : Array Slot), out = .inl y2 → inR y2 → lv_has ls 3 [(0, .ref (ad 80)), (1, .int (i2 v1)), (2, .int (i2 y2))] → WS D aC ad A H0 M H locs → W p l e rm_X11_classes s m args below meth c H locs 0 0 Q (F0 m 44 ls [])) (HR : ∀ (r : Int) (M1 : Mem) (H : Heap) (locs : List Loc) (pc : Nat) (ls : Array Slot), out = .inr (r, M1) → isZ r → WS D aC ad A H0 M1 H locs → decode cX11_classes pc = .ok (.ireturn, 1) → W p l e rm_X11_classes s m args below meth c H locs 0 0 Q (F0 m pc ls [.int (i2 r)])) : ∀ (n : Nat) (v2 : Int), whl (fun s => f_X11_classes_s18 v1 M s) n v2 = some out → inR v2 → ∀ {H : Heap} {locs : List Loc} {ls : Array Slot}, lv_has ls 3 [(0, .ref (ad 80)), (1, .int (i2 v1)), (2, .int (i2 v2))] → WS D aC ad A H0 M H locs → W p l e rm_X11_classes s m args below meth c H locs 0 0 Q (F0 m 18 ls []) := by
  intro n
  induction n with
  | zero => intro v2 hf; exact (whl_zero hf).elim
  | succ n ih =>
    intro v2 hf hv2 H locs ls hl w
    obtain ⟨o, hf, hk1, hk2⟩ := whl_step hf
    exact b_X11_classes_s18 X v1 hv1 (fun y2 H locs ls eo hy2 hl w => ih y2 (hk1 _ eo) hy2 hl w) (fun y2 H locs ls eo hy2 hl w => HE y2 H locs ls (hk2 _ eo).symm hy2 hl w) (fun r M1 H locs pc ls eo hP w dg => HR r M1 H locs pc ls (hk2 _ eo).symm hP w dg) v2 hv2 hf hl w
set_option maxRecDepth 100000 in
set_option maxHeartbeats 4000000 in
theorem b_X11_classes_j44 (X : CX p s m args c cX11_classes 3 RX11 D aC ad sg A H0) {o : Int × Mem} (HR : ∀ (r : Int) (M1 : Mem) (H : Heap) (locs : List Loc) (pc : Nat) (ls : Array Slot), o = (r, M1) → isZ r → WS D aC ad A H0 M1 H locs → decode cX11_classes pc = .ok (.ireturn, 1) → W p l e rm_X11_classes s m args below meth c H locs 0 0 Q (F0 m pc ls [.int (i2 r)])) (v1 : Int) (hv1 : inR v1) (M : Mem) (hf : f_X11_classes_j44 v1 M = some o) {H : Heap} {locs : List Loc} {ls : Array Slot} (hl : lv_has ls 3 [(0, .ref (ad 80)), (1, .int (i2 v1))]) (w : WS D aC ad A H0 M H locs) : W p l e rm_X11_classes s m args below meth c H locs 0 0 Q (F0 m 44 ls []) := by
  have hx := X.1.1
  have hb := X.1.2.1
  unfold f_X11_classes_j44 at hf
  refine lv_aload_n hx hb dX11_classes_44 rfl (lv_at hl 0 rfl) ?_
  refine lv_iload_n hx hb dX11_classes_45 rfl (lv_at hl 1 rfl) ?_
  obtain ⟨M_2, eM_2, hf⟩ := lt_some hf
  refine g_puti X w fp_X11_41 KD_80 FR_80_12 hv1 dX11_classes_46 (fun H locs w_M_2 => ?_)
  rw [← eM_2] at w_M_2
  refine lv_aload_n hx hb dX11_classes_49 rfl (lv_at hl 0 rfl) ?_
  refine g_iconst X dX11_classes_50 ?_
  obtain ⟨M_3, eM_3, hf⟩ := lt_some hf
  refine g_putz X w_M_2 fp_X11_156 KD_80 FR_80_43 (Or.inl rfl) dX11_classes_51 (fun H locs w_M_3 => ?_)
  rw [← eM_3] at w_M_3
  refine g_iconst X dX11_classes_54 ?_
  exact HR 1 M_3 _ _ _ _ (Option.some.inj hf).symm (Or.inr rfl) w_M_3 dX11_classes_55
set_option maxRecDepth 100000 in
set_option maxHeartbeats 4000000 in
theorem b_X11_classes_0 (X : CX p s m args c cX11_classes 3 RX11 D aC ad sg A H0) {o : Int × Mem} (HR : ∀ (r : Int) (M1 : Mem) (H : Heap) (locs : List Loc) (pc : Nat) (ls : Array Slot), o = (r, M1) → isZ r → WS D aC ad A H0 M1 H locs → decode cX11_classes pc = .ok (.ireturn, 1) → W p l e rm_X11_classes s m args below meth c H locs 0 0 Q (F0 m pc ls [.int (i2 r)])) (p1 : Int) (hp1 : inR p1) (M : Mem) (hf : f_X11_classes p1 M = some o) {H : Heap} {locs : List Loc} {ls : Array Slot} (hl : lv_has ls 3 [(0, .ref (ad 80)), (1, .int (i2 p1))]) (w : WS D aC ad A H0 M H locs) : W p l e rm_X11_classes s m args below meth c H locs 0 0 Q (F0 m 0 ls []) := by
  have hx := X.1.1
  have hb := X.1.2.1
  unfold f_X11_classes at hf
  refine lv_aload_n hx hb dX11_classes_0 rfl (lv_at hl 0 rfl) ?_
  refine g_iconst X dX11_classes_1 ?_
  obtain ⟨M_2, eM_2, hf⟩ := lt_some hf
  refine g_puti X w fp_X11_139 KD_80 FR_80_0 (inL rfl) dX11_classes_2 (fun H locs w_M_2 => ?_)
  rw [← eM_2] at w_M_2
  refine lv_iload_n hx hb dX11_classes_5 rfl (lv_at hl 1 rfl) ?_
  refine g_iconst X dX11_classes_6 ?_
  refine g_iconst X dX11_classes_7 ?_
  obtain ⟨r, hc, hf⟩ := obn_some hf
  refine g_csi (As := [.int (i2 p1), .int (i2 2), .int (i2 3)]) (rest := []) X w_M_2 (k_X11_within X.2.2.1 p1 hp1 2 (inL rfl) 3 (inL rfl) w_M_2.2.2 hc) lk_X11_145 ⟨rfl, rfl⟩ ⟨nle rfl, nle rfl⟩ ⟨nle rfl, nle rfl⟩ hl.1 rfl (nle rfl) dX11_classes_8 (fun hr H locs w_M_2 => ?_)
  refine g_if_ne (tgt := 16) X hr dX11_classes_11 (by decide) (fun cd => ?_) (fun cd => ?_)
  · replace hf := ite_f cd hf
    refine g_iconst X dX11_classes_16 ?_
    refine g_istn (v := 0) (lv' := [(2, .int (i2 0)), (0, .ref (ad 80)), (1, .int (i2 p1))]) X rfl dX11_classes_17 rfl hl (by decide) rfl (fun ls hl => ?_)
    obtain ⟨q, hq, h1, h2⟩ := lpr_some hf
    exact l_X11_classes_18 X p1 hp1 (out := q) (fun y2 H locs ls eq hy2 hl w => b_X11_classes_j44 X  HR p1 hp1 M_2 (h1 _ eq) (lv_sub hl [0, 1] rfl) w) (fun r M1 H locs pc ls eq hP w dg => HR r M1 H locs pc ls (Option.some.inj (h2 _ eq)).symm hP w dg) FU 0 hq (inL rfl) (lv_sub hl [1, 2, 0] rfl) w_M_2
  · replace hf := ite_t cd hf
    refine g_iconst X dX11_classes_14 ?_
    exact HR 0 M_2 _ _ _ _ (Option.some.inj hf).symm (Or.inl rfl) w_M_2 dX11_classes_15
set_option maxRecDepth 100000 in
set_option maxHeartbeats 4000000 in
theorem k_X11_classes {l : Launch} {D : va_G} {aC : Nat → ClassId} {ad : Nat → Nat} {sg : SG} (hi : Inj ad) (p1 : Int) (hp1 : inR p1) {M : Mem} (hM : inM M) {r : Int} {M' : Mem} (hf : f_X11_classes p1 M = some (r, M')) : MetI l D aC ad sg yX11_classes cX11_classes 3 (some .boolean) rm_X11_classes 0 0 [.ref (ad 80), .int (i2 p1)] M r M' := by
  refine MetI.ofZ (by decide +kernel) (nle rfl) hi hM (fun p e s m args below meth c Q H0 ls X hl w hret => ?_)
  exact b_X11_classes_0 X  (fun r1 M1 H locs pc ls eo hP w dg => by cases eo; exact hret H locs pc ls hP w dg) p1 hp1 M hf hl w
set_option maxRecDepth 100000 in
set_option maxHeartbeats 4000000 in
theorem b_X11_room_0 (X : CX p s m args c cX11_room 3 RX11 D aC ad sg A H0) {o : Int × Mem} (HR : ∀ (r : Int) (M1 : Mem) (H : Heap) (locs : List Loc) (pc : Nat) (ls : Array Slot), o = (r, M1) → isZ r → WS D aC ad A H0 M1 H locs → decode cX11_room pc = .ok (.ireturn, 1) → W p l e rm_X11_room s m args below meth c H locs 0 0 Q (F0 m pc ls [.int (i2 r)])) (p1 : Int) (hp1 : inR p1) (p2 : Int) (hp2 : inR p2) (M : Mem) (hf : f_X11_room p1 p2 M = some o) {H : Heap} {locs : List Loc} {ls : Array Slot} (hl : lv_has ls 3 [(0, .ref (ad 80)), (1, .int (i2 p1)), (2, .int (i2 p2))]) (w : WS D aC ad A H0 M H locs) : W p l e rm_X11_room s m args below meth c H locs 0 0 Q (F0 m 0 ls []) := by
  have hx := X.1.1
  have hb := X.1.2.1
  unfold f_X11_room at hf
  refine lv_aload_n hx hb dX11_room_0 rfl (lv_at hl 0 rfl) ?_
  refine g_iconst X dX11_room_1 ?_
  obtain ⟨M_2, eM_2, hf⟩ := lt_some hf
  refine g_puti X w fp_X11_139 KD_80 FR_80_0 (inL rfl) dX11_room_2 (fun H locs w_M_2 => ?_)
  rw [← eM_2] at w_M_2
  refine lv_iload_n hx hb dX11_room_5 rfl (lv_at hl 1 rfl) ?_
  refine g_iconst X dX11_room_6 ?_
  refine g_iconst X dX11_room_7 ?_
  obtain ⟨r, hc, hf⟩ := obn_some hf
  refine g_csi (As := [.int (i2 p1), .int (i2 0), .int (i2 2)]) (rest := []) X w_M_2 (k_X11_within X.2.2.1 p1 hp1 0 (inL rfl) 2 (inL rfl) w_M_2.2.2 hc) lk_X11_145 ⟨rfl, rfl⟩ ⟨nle rfl, nle rfl⟩ ⟨nle rfl, nle rfl⟩ hl.1 rfl (nle rfl) dX11_room_8 (fun hr H locs w_M_2 => ?_)
  refine g_if_eq (tgt := 24) X hr dX11_room_11 (by decide) (fun cd => ?_) (fun cd => ?_)
  · replace hf := ite_t cd hf
    refine g_iconst X dX11_room_24 ?_
    exact HR 0 M_2 _ _ _ _ (Option.some.inj hf).symm (Or.inl rfl) w_M_2 dX11_room_25
  · replace hf := ite_f cd hf
    refine lv_iload_n hx hb dX11_room_14 rfl (lv_at hl 2 rfl) ?_
    refine g_iconst X dX11_room_15 ?_
    refine g_bipush X dX11_room_16 (by decide) ?_
    obtain ⟨r_2, hc, hf⟩ := obn_some hf
    refine g_csi (As := [.int (i2 p2), .int (i2 0), .int (i2 14)]) (rest := []) X w_M_2 (k_X11_within X.2.2.1 p2 hp2 0 (inL rfl) 14 (inL rfl) w_M_2.2.2 hc) lk_X11_145 ⟨rfl, rfl⟩ ⟨nle rfl, nle rfl⟩ ⟨nle rfl, nle rfl⟩ hl.1 rfl (nle rfl) dX11_room_18 (fun hr_2 H locs w_M_2 => ?_)
    refine g_if_ne (tgt := 26) X hr_2 dX11_room_21 (by decide) (fun cd_2 => ?_) (fun cd_2 => ?_)
    · replace hf := ite_f cd_2 hf
      refine lv_aload_n hx hb dX11_room_26 rfl (lv_at hl 0 rfl) ?_
      refine g_getr X w_M_2 fg_X11_45 KD_80 FR_80_13 dX11_room_27 ?_
      refine lv_iload_n hx hb dX11_room_30 rfl (lv_at hl 1 rfl) ?_
      refine lv_iload_n hx hb dX11_room_31 rfl (lv_at hl 2 rfl) ?_
      obtain ⟨hg, hf⟩ := gd_some hf
      obtain ⟨M_3, eM_3, hf⟩ := lt_some hf
      refine g_iast X w_M_2 KD_91 hp1 hg hp2 dX11_room_32 (fun H locs w_M_3 => ?_)
      rw [← eM_3] at w_M_3
      refine lv_aload_n hx hb dX11_room_33 rfl (lv_at hl 0 rfl) ?_
      refine g_iconst X dX11_room_34 ?_
      obtain ⟨M_4, eM_4, hf⟩ := lt_some hf
      refine g_putz X w_M_3 fp_X11_156 KD_80 FR_80_43 (Or.inl rfl) dX11_room_35 (fun H locs w_M_4 => ?_)
      rw [← eM_4] at w_M_4
      refine g_iconst X dX11_room_38 ?_
      exact HR 1 M_4 _ _ _ _ (Option.some.inj hf).symm (Or.inr rfl) w_M_4 dX11_room_39
    · replace hf := ite_t cd_2 hf
      refine g_iconst X dX11_room_24 ?_
      exact HR 0 M_2 _ _ _ _ (Option.some.inj hf).symm (Or.inl rfl) w_M_2 dX11_room_25
set_option maxRecDepth 100000 in
set_option maxHeartbeats 4000000 in
theorem k_X11_room {l : Launch} {D : va_G} {aC : Nat → ClassId} {ad : Nat → Nat} {sg : SG} (hi : Inj ad) (p1 : Int) (hp1 : inR p1) (p2 : Int) (hp2 : inR p2) {M : Mem} (hM : inM M) {r : Int} {M' : Mem} (hf : f_X11_room p1 p2 M = some (r, M')) : MetI l D aC ad sg yX11_room cX11_room 3 (some .boolean) rm_X11_room 0 0 [.ref (ad 80), .int (i2 p1), .int (i2 p2)] M r M' := by
  refine MetI.ofZ (by decide +kernel) (nle rfl) hi hM (fun p e s m args below meth c Q H0 ls X hl w hret => ?_)
  exact b_X11_room_0 X  (fun r1 M1 H locs pc ls eo hP w dg => by cases eo; exact hret H locs pc ls hP w dg) p1 hp1 p2 hp2 M hf hl w
set_option maxRecDepth 100000 in
set_option maxHeartbeats 4000000 in
theorem b_X11_feed_j73k20 (X : CX p s m args c cX11_feed 8 RX11 D aC ad sg A H0) (v1 : Int) (hv1 : inR v1) (v2 : Int) (hv2 : inR v2) (v3 : Int) (hv3 : inR v3) (v4 : Int) (hv4 : inR v4) (v5 : Int) (hv5 : inR v5) {o : (Int × Mem) ⊕ (Int × Mem)} (HC : ∀ (y6 : Int) (M1 : Mem) (H : Heap) (locs : List Loc) (ls : Array Slot), o = .inl (y6, M1) → inR y6 → lv_has ls 8 [(0, .ref (ad 80)), (1, .int (i2 v1)), (2, .int (i2 v2)), (3, .int (i2 v3)), (4, .int (i2 v4)), (5, .int (i2 v5)), (6, .int (i2 y6))] → WS D aC ad A H0 M1 H locs → W p l e rm_X11_feed s m args below meth c H locs 0 0 Q (F0 m 20 ls [])) (HE : ∀ (y6 : Int) (M1 : Mem) (H : Heap) (locs : List Loc) (ls : Array Slot), o = .inr (y6, M1) → inR y6 → lv_has ls 8 [(0, .ref (ad 80)), (1, .int (i2 v1)), (2, .int (i2 v2)), (3, .int (i2 v3)), (4, .int (i2 v4)), (5, .int (i2 v5)), (6, .int (i2 y6))] → WS D aC ad A H0 M1 H locs → W p l e rm_X11_feed s m args below meth c H locs 0 0 Q (F0 m 114 ls [])) (v6 : Int) (hv6 : inR v6) (s0 : Int) (hs0 : inR s0) (M : Mem) (hf : f_X11_feed_j73k20 v1 v2 v3 v4 v5 v6 s0 M = some o) {H : Heap} {locs : List Loc} {ls : Array Slot} (hl : lv_has ls 8 [(0, .ref (ad 80)), (1, .int (i2 v1)), (2, .int (i2 v2)), (3, .int (i2 v3)), (4, .int (i2 v4)), (5, .int (i2 v5)), (6, .int (i2 v6))]) (w : WS D aC ad A H0 M H locs) : W p l e rm_X11_feed s m args below meth c H locs 0 0 Q (F0 m 73 ls [.int (i2 s0)]) := by
  have hx := X.1.1
  have hb := X.1.2.1
  unfold f_X11_feed_j73k20 at hf
  refine g_ist (v := s0) (lv' := [(7, .int (i2 s0)), (0, .ref (ad 80)), (1, .int (i2 v1)), (2, .int (i2 v2)), (3, .int (i2 v3)), (4, .int (i2 v4)), (5, .int (i2 v5)), (6, .int (i2 v6))]) X rfl dX11_feed_73 hl (by decide) rfl (fun ls hl => ?_)
  refine lv_aload_n hx hb dX11_feed_75 rfl (lv_at hl 1 rfl) ?_
  refine g_getr X w fg_X11_87 KD_80 FR_80_31 dX11_feed_76 ?_
  refine lv_aload_n hx hb dX11_feed_79 rfl (lv_at hl 1 rfl) ?_
  refine g_geti X w fg_X11_210 KD_80 FR_80_32 dX11_feed_80 ?_
  refine lv_iload hx hb dX11_feed_83 (lv_at hl 0 rfl) ?_
  refine g_bipush X dX11_feed_85 (by decide) ?_
  refine g_bipush X dX11_feed_87 (by decide) ?_
  refine lv_iload hx hb dX11_feed_89 (lv_at hl 7 rfl) ?_
  refine g_iconst X dX11_feed_91 ?_
  refine g_irem X (inL rfl) (by decide) dX11_feed_92 ?_
  refine g_imul X dX11_feed_93 ?_
  refine g_isub X dX11_feed_94 ?_
  refine g_ishr X dX11_feed_95 ?_
  refine g_i2b X dX11_feed_96 ?_
  obtain ⟨hg, hf⟩ := gd_some hf
  obtain ⟨hz, hf⟩ := gd_some hf
  obtain ⟨M_2, eM_2, hf⟩ := lt_some hf
  refine g_bast X w KD_105 (w.2.2 _ _) hg hz dX11_feed_97 (fun H locs w_M_2 => ?_)
  rw [← eM_2] at w_M_2
  refine lv_aload_n hx hb dX11_feed_98 rfl (lv_at hl 1 rfl) ?_
  refine lv_dup hx hb dX11_feed_99 rfl ?_
  refine g_geti X w_M_2 fg_X11_210 KD_80 FR_80_32 dX11_feed_100 ?_
  refine g_iconst X dX11_feed_103 ?_
  refine g_iadd X dX11_feed_104 ?_
  obtain ⟨M_3, eM_3, hf⟩ := lt_some hf
  refine g_puti X w_M_2 fp_X11_210 KD_80 FR_80_32 (inR_wrap _) dX11_feed_105 (fun H locs w_M_3 => ?_)
  rw [← eM_3] at w_M_3
  obtain ⟨v6_2, ev6_2, hf⟩ := lt_some hf
  have hv6_2 : inR v6_2 := inR_of ev6_2 (inR_wrap _)
  refine lv_iinc (v := i2 v6_2) (lv' := [(6, .int (i2 v6_2)), (7, .int (i2 s0)), (0, .ref (ad 80)), (1, .int (i2 v1)), (2, .int (i2 v2)), (3, .int (i2 v3)), (4, .int (i2 v4)), (5, .int (i2 v5))]) hx hb dX11_feed_108 hl (k := 7) rfl (by rw [ev6_2]; exact i2_add _ _) (by decide) rfl (fun ls hl => ?_)
  refine lv_goto (tgt := 20) hx hb dX11_feed_111 (by decide) ?_
  exact HC v6_2 M_3 _ _ _ (Option.some.inj hf).symm hv6_2 (lv_sub hl [2, 3, 4, 5, 6, 7, 0] rfl) w_M_3
set_option maxRecDepth 100000 in
set_option maxHeartbeats 4000000 in
theorem b_X11_feed_s20 (X : CX p s m args c cX11_feed 8 RX11 D aC ad sg A H0) (v1 : Int) (hv1 : inR v1) (v2 : Int) (hv2 : inR v2) (v3 : Int) (hv3 : inR v3) (v4 : Int) (hv4 : inR v4) (v5 : Int) (hv5 : inR v5) {o : (Int × Mem) ⊕ (Int × Mem)} (HC : ∀ (y6 : Int) (M1 : Mem) (H : Heap) (locs : List Loc) (ls : Array Slot), o = .inl (y6, M1) → inR y6 → lv_has ls 8 [(0, .ref (ad 80)), (1, .int (i2 v1)), (2, .int (i2 v2)), (3, .int (i2 v3)), (4, .int (i2 v4)), (5, .int (i2 v5)), (6, .int (i2 y6))] → WS D aC ad A H0 M1 H locs → W p l e rm_X11_feed s m args below meth c H locs 0 0 Q (F0 m 20 ls [])) (HE : ∀ (y6 : Int) (M1 : Mem) (H : Heap) (locs : List Loc) (ls : Array Slot), o = .inr (y6, M1) → inR y6 → lv_has ls 8 [(0, .ref (ad 80)), (1, .int (i2 v1)), (2, .int (i2 v2)), (3, .int (i2 v3)), (4, .int (i2 v4)), (5, .int (i2 v5)), (6, .int (i2 y6))] → WS D aC ad A H0 M1 H locs → W p l e rm_X11_feed s m args below meth c H locs 0 0 Q (F0 m 114 ls [])) (v6 : Int) (hv6 : inR v6) (M : Mem) (hf : f_X11_feed_s20 v1 v2 v3 v4 v5 v6 M = some o) {H : Heap} {locs : List Loc} {ls : Array Slot} (hl : lv_has ls 8 [(0, .ref (ad 80)), (1, .int (i2 v1)), (2, .int (i2 v2)), (3, .int (i2 v3)), (4, .int (i2 v4)), (5, .int (i2 v5)), (6, .int (i2 v6))]) (w : WS D aC ad A H0 M H locs) : W p l e rm_X11_feed s m args below meth c H locs 0 0 Q (F0 m 20 ls []) := by
  have hx := X.1.1
  have hb := X.1.2.1
  unfold f_X11_feed_s20 at hf
  refine lv_iload hx hb dX11_feed_20 (lv_at hl 6 rfl) ?_
  refine g_bipush X dX11_feed_22 (by decide) ?_
  refine g_icmp_ge (tgt := 114) X hv6 (inL rfl) dX11_feed_24 (by decide) (fun cd => ?_) (fun cd => ?_)
  · replace hf := ite_t cd hf
    exact HE v6 M _ _ _ (Option.some.inj hf).symm hv6 hl w
  · replace hf := ite_f cd hf
    refine lv_iload hx hb dX11_feed_27 (lv_at hl 6 rfl) ?_
    refine g_iconst X dX11_feed_29 ?_
    refine g_icmp_ge (tgt := 37) X hv6 (inL rfl) dX11_feed_30 (by decide) (fun cd_2 => ?_) (fun cd_2 => ?_)
    · replace hf := ite_t cd_2 hf
      refine lv_iload hx hb dX11_feed_37 (lv_at hl 6 rfl) ?_
      refine g_bipush X dX11_feed_39 (by decide) ?_
      refine g_icmp_ge (tgt := 48) X hv6 (inL rfl) dX11_feed_41 (by decide) (fun cd_3 => ?_) (fun cd_3 => ?_)
      · replace hf := ite_t cd_3 hf
        refine lv_iload hx hb dX11_feed_48 (lv_at hl 6 rfl) ?_
        refine g_bipush X dX11_feed_50 (by decide) ?_
        refine g_icmp_ge (tgt := 59) X hv6 (inL rfl) dX11_feed_52 (by decide) (fun cd_4 => ?_) (fun cd_4 => ?_)
        · replace hf := ite_t cd_4 hf
          refine lv_iload hx hb dX11_feed_59 (lv_at hl 6 rfl) ?_
          refine g_bipush X dX11_feed_61 (by decide) ?_
          refine g_icmp_ge (tgt := 71) X hv6 (inL rfl) dX11_feed_63 (by decide) (fun cd_5 => ?_) (fun cd_5 => ?_)
          · replace hf := ite_t cd_5 hf
            refine lv_iload hx hb dX11_feed_71 (lv_at hl 5 rfl) ?_
            exact b_X11_feed_j73k20 X v1 hv1 v2 hv2 v3 hv3 v4 hv4 v5 hv5 HC HE v6 hv6 v5 hv5 M hf hl w
          · replace hf := ite_f cd_5 hf
            refine lv_iload hx hb dX11_feed_66 (lv_at hl 4 rfl) ?_
            refine lv_goto (tgt := 73) hx hb dX11_feed_68 (by decide) ?_
            exact b_X11_feed_j73k20 X v1 hv1 v2 hv2 v3 hv3 v4 hv4 v5 hv5 HC HE v6 hv6 v4 hv4 M hf hl w
        · replace hf := ite_f cd_4 hf
          refine lv_iload_n hx hb dX11_feed_55 rfl (lv_at hl 3 rfl) ?_
          refine lv_goto (tgt := 73) hx hb dX11_feed_56 (by decide) ?_
          exact b_X11_feed_j73k20 X v1 hv1 v2 hv2 v3 hv3 v4 hv4 v5 hv5 HC HE v6 hv6 v3 hv3 M hf hl w
      · replace hf := ite_f cd_3 hf
        refine lv_iload_n hx hb dX11_feed_44 rfl (lv_at hl 2 rfl) ?_
        refine lv_goto (tgt := 73) hx hb dX11_feed_45 (by decide) ?_
        exact b_X11_feed_j73k20 X v1 hv1 v2 hv2 v3 hv3 v4 hv4 v5 hv5 HC HE v6 hv6 v2 hv2 M hf hl w
    · replace hf := ite_f cd_2 hf
      refine lv_iload_n hx hb dX11_feed_33 rfl (lv_at hl 1 rfl) ?_
      refine lv_goto (tgt := 73) hx hb dX11_feed_34 (by decide) ?_
      exact b_X11_feed_j73k20 X v1 hv1 v2 hv2 v3 hv3 v4 hv4 v5 hv5 HC HE v6 hv6 v1 hv1 M hf hl w
set_option maxRecDepth 100000 in
set_option maxHeartbeats 4000000 in
theorem l_X11_feed_20 (X : CX p s m args c cX11_feed 8 RX11 D aC ad sg A H0) (v1 : Int) (hv1 : inR v1) (v2 : Int) (hv2 : inR v2) (v3 : Int) (hv3 : inR v3) (v4 : Int) (hv4 : inR v4) (v5 : Int) (hv5 : inR v5) {out : Int × Mem} (HE : ∀ (y6 : Int) (M1 : Mem) (H : Heap) (locs : List Loc) (ls : Array Slot), out = (y6, M1) → inR y6 → lv_has ls 8 [(0, .ref (ad 80)), (1, .int (i2 v1)), (2, .int (i2 v2)), (3, .int (i2 v3)), (4, .int (i2 v4)), (5, .int (i2 v5)), (6, .int (i2 y6))] → WS D aC ad A H0 M1 H locs → W p l e rm_X11_feed s m args below meth c H locs 0 0 Q (F0 m 114 ls [])) : ∀ (n : Nat) (v6 : Int) (M : Mem), whl (fun s => f_X11_feed_s20 v1 v2 v3 v4 v5 s.1 s.2) n (v6, M) = some out → inR v6 → ∀ {H : Heap} {locs : List Loc} {ls : Array Slot}, lv_has ls 8 [(0, .ref (ad 80)), (1, .int (i2 v1)), (2, .int (i2 v2)), (3, .int (i2 v3)), (4, .int (i2 v4)), (5, .int (i2 v5)), (6, .int (i2 v6))] → WS D aC ad A H0 M H locs → W p l e rm_X11_feed s m args below meth c H locs 0 0 Q (F0 m 20 ls []) := by
  intro n
  induction n with
  | zero => intro v6 M hf; exact (whl_zero hf).elim
  | succ n ih =>
    intro v6 M hf hv6 H locs ls hl w
    obtain ⟨o, hf, hk1, hk2⟩ := whl_step hf
    exact b_X11_feed_s20 X v1 hv1 v2 hv2 v3 hv3 v4 hv4 v5 hv5 (fun y6 M1 H locs ls eo hy6 hl w => ih y6 M1 (hk1 _ eo) hy6 hl w) (fun y6 M1 H locs ls eo hy6 hl w => HE y6 M1 H locs ls (hk2 _ eo).symm hy6 hl w) v6 hv6 M hf hl w
set_option maxRecDepth 100000 in
set_option maxHeartbeats 4000000 in
theorem b_X11_feed_j114 (X : CX p s m args c cX11_feed 8 RX11 D aC ad sg A H0) {o : Int × Mem} (HR : ∀ (r : Int) (M1 : Mem) (H : Heap) (locs : List Loc) (pc : Nat) (ls : Array Slot), o = (r, M1) → inR r → WS D aC ad A H0 M1 H locs → decode cX11_feed pc = .ok (.ireturn, 1) → W p l e rm_X11_feed s m args below meth c H locs 0 0 Q (F0 m pc ls [.int (i2 r)])) (M : Mem) (hf : f_X11_feed_j114 M = some o) {H : Heap} {locs : List Loc} {ls : Array Slot} (hl : lv_has ls 8 [(0, .ref (ad 80))]) (w : WS D aC ad A H0 M H locs) : W p l e rm_X11_feed s m args below meth c H locs 0 0 Q (F0 m 114 ls []) := by
  have hx := X.1.1
  have hb := X.1.2.1
  unfold f_X11_feed_j114 at hf
  refine lv_aload_n hx hb dX11_feed_114 rfl (lv_at hl 0 rfl) ?_
  refine g_geti X w fg_X11_210 KD_80 FR_80_32 dX11_feed_115 ?_
  exact HR (M 80 32) M _ _ _ _ (Option.some.inj hf).symm (w.2.2 _ _) w dX11_feed_118
set_option maxRecDepth 100000 in
set_option maxHeartbeats 4000000 in
theorem b_X11_feed_0 (X : CX p s m args c cX11_feed 8 RX11 D aC ad sg A H0) {o : Int × Mem} (HR : ∀ (r : Int) (M1 : Mem) (H : Heap) (locs : List Loc) (pc : Nat) (ls : Array Slot), o = (r, M1) → inR r → WS D aC ad A H0 M1 H locs → decode cX11_feed pc = .ok (.ireturn, 1) → W p l e rm_X11_feed s m args below meth c H locs 0 0 Q (F0 m pc ls [.int (i2 r)])) (p1 : Int) (hp1 : inR p1) (p2 : Int) (hp2 : inR p2) (p3 : Int) (hp3 : inR p3) (p4 : Int) (hp4 : inR p4) (p5 : Int) (hp5 : inR p5) (M : Mem) (hf : f_X11_feed p1 p2 p3 p4 p5 M = some o) {H : Heap} {locs : List Loc} {ls : Array Slot} (hl : lv_has ls 8 [(0, .ref (ad 80)), (1, .int (i2 p1)), (2, .int (i2 p2)), (3, .int (i2 p3)), (4, .int (i2 p4)), (5, .int (i2 p5))]) (w : WS D aC ad A H0 M H locs) : W p l e rm_X11_feed s m args below meth c H locs 0 0 Q (F0 m 0 ls []) := by
  have hx := X.1.1
  have hb := X.1.2.1
  unfold f_X11_feed at hf
  refine lv_aload_n hx hb dX11_feed_0 rfl (lv_at hl 0 rfl) ?_
  refine g_iconst X dX11_feed_1 ?_
  obtain ⟨M_2, eM_2, hf⟩ := lt_some hf
  refine g_puti X w fp_X11_139 KD_80 FR_80_0 (inL rfl) dX11_feed_2 (fun H locs w_M_2 => ?_)
  rw [← eM_2] at w_M_2
  refine lv_aload_n hx hb dX11_feed_5 rfl (lv_at hl 0 rfl) ?_
  refine g_geti X w_M_2 fg_X11_210 KD_80 FR_80_32 dX11_feed_6 ?_
  refine g_sipush X dX11_feed_9 (by decide) ?_
  refine g_icmp_le (tgt := 17) X (w_M_2.2.2 _ _) (inL rfl) dX11_feed_12 (by decide) (fun cd => ?_) (fun cd => ?_)
  · replace hf := ite_t cd hf
    refine g_iconst X dX11_feed_17 ?_
    refine g_ist (v := 0) (lv' := [(6, .int (i2 0)), (0, .ref (ad 80)), (1, .int (i2 p1)), (2, .int (i2 p2)), (3, .int (i2 p3)), (4, .int (i2 p4)), (5, .int (i2 p5))]) X rfl dX11_feed_18 hl (by decide) rfl (fun ls hl => ?_)
    obtain ⟨q, hq, h1⟩ := obn_some hf
    exact l_X11_feed_20 X p1 hp1 p2 hp2 p3 hp3 p4 hp4 p5 hp5 (out := q) (fun y6 M1 H locs ls eq hy6 hl w => b_X11_feed_j114 X  HR M1 (by subst eq; exact h1) (lv_sub hl [0] rfl) w)  FU 0 M_2 hq (inL rfl) (lv_sub hl [1, 2, 3, 4, 5, 6, 0] rfl) w_M_2
  · replace hf := ite_f cd hf
    refine g_iconst X dX11_feed_15 ?_
    exact HR (-1) M_2 _ _ _ _ (Option.some.inj hf).symm (inL rfl) w_M_2 dX11_feed_16
set_option maxRecDepth 100000 in
set_option maxHeartbeats 4000000 in
theorem k_X11_feed {l : Launch} {D : va_G} {aC : Nat → ClassId} {ad : Nat → Nat} {sg : SG} (hi : Inj ad) (p1 : Int) (hp1 : inR p1) (p2 : Int) (hp2 : inR p2) (p3 : Int) (hp3 : inR p3) (p4 : Int) (hp4 : inR p4) (p5 : Int) (hp5 : inR p5) {M : Mem} (hM : inM M) {r : Int} {M' : Mem} (hf : f_X11_feed p1 p2 p3 p4 p5 M = some (r, M')) : MetI l D aC ad sg yX11_feed cX11_feed 8 (some .int) rm_X11_feed 0 0 [.ref (ad 80), .int (i2 p1), .int (i2 p2), .int (i2 p3), .int (i2 p4), .int (i2 p5)] M r M' := by
  refine MetI.ofI (by decide +kernel) (nle rfl) hi hM (fun p e s m args below meth c Q H0 ls X hl w hret => ?_)
  exact b_X11_feed_0 X  (fun r1 M1 H locs pc ls eo hP w dg => by cases eo; exact hret H locs pc ls hP w dg) p1 hp1 p2 hp2 p3 hp3 p4 hp4 p5 hp5 M hf hl w
set_option maxRecDepth 100000 in
set_option maxHeartbeats 4000000 in
theorem b_X11_end_0 (X : CX p s m args c cX11_end 2 RX11 D aC ad sg A H0) {o : Int × Mem} (HR : ∀ (r : Int) (M1 : Mem) (H : Heap) (locs : List Loc) (pc : Nat) (ls : Array Slot), o = (r, M1) → inR r → WS D aC ad A H0 M1 H locs → decode cX11_end pc = .ok (.ireturn, 1) → W p l e rm_X11_end s m args below meth c H locs 0 0 Q (F0 m pc ls [.int (i2 r)])) (p1 : Int) (hp1 : inR p1) (M : Mem) (hf : f_X11_end p1 M = some o) {H : Heap} {locs : List Loc} {ls : Array Slot} (hl : lv_has ls 2 [(0, .ref (ad 80)), (1, .int (i2 p1))]) (w : WS D aC ad A H0 M H locs) : W p l e rm_X11_end s m args below meth c H locs 0 0 Q (F0 m 0 ls []) := by
  have hx := X.1.1
  have hb := X.1.2.1
  unfold f_X11_end at hf
  refine lv_aload_n hx hb dX11_end_0 rfl (lv_at hl 0 rfl) ?_
  refine g_iconst X dX11_end_1 ?_
  obtain ⟨M_2, eM_2, hf⟩ := lt_some hf
  refine g_puti X w fp_X11_139 KD_80 FR_80_0 (inL rfl) dX11_end_2 (fun H locs w_M_2 => ?_)
  rw [← eM_2] at w_M_2
  refine lv_iload_n hx hb dX11_end_5 rfl (lv_at hl 1 rfl) ?_
  refine g_iconst X dX11_end_6 ?_
  refine lv_aload_n hx hb dX11_end_7 rfl (lv_at hl 0 rfl) ?_
  refine g_geti X w_M_2 fg_X11_210 KD_80 FR_80_32 dX11_end_8 ?_
  obtain ⟨r, hc, hf⟩ := obn_some hf
  refine g_csi (As := [.int (i2 p1), .int (i2 0), .int (i2 (M_2 80 32))]) (rest := []) X w_M_2 (k_X11_within X.2.2.1 p1 hp1 0 (inL rfl) (M_2 80 32) (w_M_2.2.2 _ _) w_M_2.2.2 hc) lk_X11_145 ⟨rfl, rfl⟩ ⟨nle rfl, nle rfl⟩ ⟨nle rfl, nle rfl⟩ hl.1 rfl (nle rfl) dX11_end_11 (fun hr H locs w_M_2 => ?_)
  refine g_if_ne (tgt := 19) X hr dX11_end_14 (by decide) (fun cd => ?_) (fun cd => ?_)
  · replace hf := ite_f cd hf
    refine lv_aload_n hx hb dX11_end_19 rfl (lv_at hl 0 rfl) ?_
    refine lv_iload_n hx hb dX11_end_20 rfl (lv_at hl 1 rfl) ?_
    obtain ⟨M_3, eM_3, hf⟩ := lt_some hf
    refine g_puti X w_M_2 fp_X11_210 KD_80 FR_80_32 hp1 dX11_end_21 (fun H locs w_M_3 => ?_)
    rw [← eM_3] at w_M_3
    refine lv_iload_n hx hb dX11_end_24 rfl (lv_at hl 1 rfl) ?_
    exact HR p1 M_3 _ _ _ _ (Option.some.inj hf).symm hp1 w_M_3 dX11_end_25
  · replace hf := ite_t cd hf
    refine g_iconst X dX11_end_17 ?_
    exact HR (-1) M_2 _ _ _ _ (Option.some.inj hf).symm (inL rfl) w_M_2 dX11_end_18
set_option maxRecDepth 100000 in
set_option maxHeartbeats 4000000 in
theorem k_X11_end {l : Launch} {D : va_G} {aC : Nat → ClassId} {ad : Nat → Nat} {sg : SG} (hi : Inj ad) (p1 : Int) (hp1 : inR p1) {M : Mem} (hM : inM M) {r : Int} {M' : Mem} (hf : f_X11_end p1 M = some (r, M')) : MetI l D aC ad sg yX11_end cX11_end 2 (some .int) rm_X11_end 0 0 [.ref (ad 80), .int (i2 p1)] M r M' := by
  refine MetI.ofI (by decide +kernel) (nle rfl) hi hM (fun p e s m args below meth c Q H0 ls X hl w hret => ?_)
  exact b_X11_end_0 X  (fun r1 M1 H locs pc ls eo hP w dg => by cases eo; exact hret H locs pc ls hP w dg) p1 hp1 M hf hl w
set_option maxRecDepth 100000 in
set_option maxHeartbeats 4000000 in
theorem b_X11_byteAt_0 (X : CX p s m args c cX11_byteAt 2 RX11 D aC ad sg A H0) {M : Mem} {o : Int} (HR : ∀ (r : Int) (H : Heap) (locs : List Loc) (pc : Nat) (ls : Array Slot), o = r → inR r → WS D aC ad A H0 M H locs → decode cX11_byteAt pc = .ok (.ireturn, 1) → W p l e rm_X11_byteAt s m args below meth c H locs 0 0 Q (F0 m pc ls [.int (i2 r)])) (p1 : Int) (hp1 : inR p1) (hf : f_X11_byteAt p1 M = some o) {H : Heap} {locs : List Loc} {ls : Array Slot} (hl : lv_has ls 2 [(0, .ref (ad 80)), (1, .int (i2 p1))]) (w : WS D aC ad A H0 M H locs) : W p l e rm_X11_byteAt s m args below meth c H locs 0 0 Q (F0 m 0 ls []) := by
  have hx := X.1.1
  have hb := X.1.2.1
  unfold f_X11_byteAt at hf
  refine lv_iload_n hx hb dX11_byteAt_0 rfl (lv_at hl 1 rfl) ?_
  refine lv_aload_n hx hb dX11_byteAt_1 rfl (lv_at hl 0 rfl) ?_
  refine g_geti X w fg_X11_210 KD_80 FR_80_32 dX11_byteAt_2 ?_
  refine g_icmp_ge (tgt := 21) X hp1 (w.2.2 _ _) dX11_byteAt_5 (by decide) (fun cd => ?_) (fun cd => ?_)
  · replace hf := ite_t cd hf
    refine g_iconst X dX11_byteAt_21 ?_
    exact HR 0 _ _ _ _ (Option.some.inj hf).symm (inL rfl) w dX11_byteAt_22
  · replace hf := ite_f cd hf
    refine lv_aload_n hx hb dX11_byteAt_8 rfl (lv_at hl 0 rfl) ?_
    refine g_getr X w fg_X11_87 KD_80 FR_80_31 dX11_byteAt_9 ?_
    refine lv_iload_n hx hb dX11_byteAt_12 rfl (lv_at hl 1 rfl) ?_
    obtain ⟨hg, hf⟩ := gd_some hf
    refine g_bald X w KD_105 hp1 hg dX11_byteAt_13 ?_
    refine g_sipush X dX11_byteAt_14 (by decide) ?_
    refine g_iand X dX11_byteAt_17 ?_
    refine lv_goto (tgt := 22) hx hb dX11_byteAt_18 (by decide) ?_
    exact HR (band (M 105 p1.toNat) 255) _ _ _ _ (Option.some.inj hf).symm (inR_toInt _) w dX11_byteAt_22
set_option maxRecDepth 100000 in
set_option maxHeartbeats 4000000 in
theorem k_X11_byteAt {l : Launch} {D : va_G} {aC : Nat → ClassId} {ad : Nat → Nat} {sg : SG} (hi : Inj ad) (p1 : Int) (hp1 : inR p1) {M : Mem} (hM : inM M) {r : Int} (hf : f_X11_byteAt p1 M = some r) : MetI l D aC ad sg yX11_byteAt cX11_byteAt 2 (some .int) rm_X11_byteAt 0 0 [.ref (ad 80), .int (i2 p1)] M r M := by
  refine MetI.ofI (by decide +kernel) (nle rfl) hi hM (fun p e s m args below meth c Q H0 ls X hl w hret => ?_)
  exact b_X11_byteAt_0 X  (fun r1 H locs pc ls eo hP w dg => by cases eo; exact hret H locs pc ls hP w dg) p1 hp1 hf hl w
set_option maxRecDepth 100000 in
set_option maxHeartbeats 4000000 in
theorem b_X11_isSmall_0 (X : CX p s m args c cX11_isSmall 1 RX11 D aC ad sg A H0) {M : Mem} {o : Int} (HR : ∀ (r : Int) (H : Heap) (locs : List Loc) (pc : Nat) (ls : Array Slot), o = r → isZ r → WS D aC ad A H0 M H locs → decode cX11_isSmall pc = .ok (.ireturn, 1) → W p l e rm_X11_isSmall s m args below meth c H locs 0 0 Q (F0 m pc ls [.int (i2 r)])) (p0 : Int) (hp0 : inR p0) (hf : f_X11_isSmall p0 M = some o) {H : Heap} {locs : List Loc} {ls : Array Slot} (hl : lv_has ls 1 [(0, .int (i2 p0))]) (w : WS D aC ad A H0 M H locs) : W p l e rm_X11_isSmall s m args below meth c H locs 0 0 Q (F0 m 0 ls []) := by
  have hx := X.1.1
  have hb := X.1.2.1
  unfold f_X11_isSmall at hf
  refine lv_iload_n hx hb dX11_isSmall_0 rfl (lv_at hl 0 rfl) ?_
  refine g_bipush X dX11_isSmall_1 (by decide) ?_
  refine g_icmp_lt (tgt := 16) X hp0 (inL rfl) dX11_isSmall_3 (by decide) (fun cd => ?_) (fun cd => ?_)
  · replace hf := ite_t cd hf
    refine g_iconst X dX11_isSmall_16 ?_
    exact HR 0 _ _ _ _ (Option.some.inj hf).symm (Or.inl rfl) w dX11_isSmall_17
  · replace hf := ite_f cd hf
    refine lv_iload_n hx hb dX11_isSmall_6 rfl (lv_at hl 0 rfl) ?_
    refine g_bipush X dX11_isSmall_7 (by decide) ?_
    refine g_icmp_gt (tgt := 16) X hp0 (inL rfl) dX11_isSmall_9 (by decide) (fun cd_2 => ?_) (fun cd_2 => ?_)
    · replace hf := ite_t cd_2 hf
      refine g_iconst X dX11_isSmall_16 ?_
      exact HR 0 _ _ _ _ (Option.some.inj hf).symm (Or.inl rfl) w dX11_isSmall_17
    · replace hf := ite_f cd_2 hf
      refine g_iconst X dX11_isSmall_12 ?_
      refine lv_goto (tgt := 17) hx hb dX11_isSmall_13 (by decide) ?_
      exact HR 1 _ _ _ _ (Option.some.inj hf).symm (Or.inr rfl) w dX11_isSmall_17
set_option maxRecDepth 100000 in
set_option maxHeartbeats 4000000 in
theorem k_X11_isSmall {l : Launch} {D : va_G} {aC : Nat → ClassId} {ad : Nat → Nat} {sg : SG} (hi : Inj ad) (p0 : Int) (hp0 : inR p0) {M : Mem} (hM : inM M) {r : Int} (hf : f_X11_isSmall p0 M = some r) : MetI l D aC ad sg yX11_isSmall cX11_isSmall 1 (some .boolean) rm_X11_isSmall 0 0 [.int (i2 p0)] M r M := by
  refine MetI.ofZ (by decide +kernel) (nle rfl) hi hM (fun p e s m args below meth c Q H0 ls X hl w hret => ?_)
  exact b_X11_isSmall_0 X  (fun r1 H locs pc ls eo hP w dg => by cases eo; exact hret H locs pc ls hP w dg) p0 hp0 hf hl w
set_option maxRecDepth 100000 in
set_option maxHeartbeats 4000000 in
theorem b_X11_isDigit_0 (X : CX p s m args c cX11_isDigit 1 RX11 D aC ad sg A H0) {M : Mem} {o : Int} (HR : ∀ (r : Int) (H : Heap) (locs : List Loc) (pc : Nat) (ls : Array Slot), o = r → isZ r → WS D aC ad A H0 M H locs → decode cX11_isDigit pc = .ok (.ireturn, 1) → W p l e rm_X11_isDigit s m args below meth c H locs 0 0 Q (F0 m pc ls [.int (i2 r)])) (p0 : Int) (hp0 : inR p0) (hf : f_X11_isDigit p0 M = some o) {H : Heap} {locs : List Loc} {ls : Array Slot} (hl : lv_has ls 1 [(0, .int (i2 p0))]) (w : WS D aC ad A H0 M H locs) : W p l e rm_X11_isDigit s m args below meth c H locs 0 0 Q (F0 m 0 ls []) := by
  have hx := X.1.1
  have hb := X.1.2.1
  unfold f_X11_isDigit at hf
  refine lv_iload_n hx hb dX11_isDigit_0 rfl (lv_at hl 0 rfl) ?_
  refine g_bipush X dX11_isDigit_1 (by decide) ?_
  refine g_icmp_lt (tgt := 16) X hp0 (inL rfl) dX11_isDigit_3 (by decide) (fun cd => ?_) (fun cd => ?_)
  · replace hf := ite_t cd hf
    refine g_iconst X dX11_isDigit_16 ?_
    exact HR 0 _ _ _ _ (Option.some.inj hf).symm (Or.inl rfl) w dX11_isDigit_17
  · replace hf := ite_f cd hf
    refine lv_iload_n hx hb dX11_isDigit_6 rfl (lv_at hl 0 rfl) ?_
    refine g_bipush X dX11_isDigit_7 (by decide) ?_
    refine g_icmp_gt (tgt := 16) X hp0 (inL rfl) dX11_isDigit_9 (by decide) (fun cd_2 => ?_) (fun cd_2 => ?_)
    · replace hf := ite_t cd_2 hf
      refine g_iconst X dX11_isDigit_16 ?_
      exact HR 0 _ _ _ _ (Option.some.inj hf).symm (Or.inl rfl) w dX11_isDigit_17
    · replace hf := ite_f cd_2 hf
      refine g_iconst X dX11_isDigit_12 ?_
      refine lv_goto (tgt := 17) hx hb dX11_isDigit_13 (by decide) ?_
      exact HR 1 _ _ _ _ (Option.some.inj hf).symm (Or.inr rfl) w dX11_isDigit_17
set_option maxRecDepth 100000 in
set_option maxHeartbeats 4000000 in
theorem k_X11_isDigit {l : Launch} {D : va_G} {aC : Nat → ClassId} {ad : Nat → Nat} {sg : SG} (hi : Inj ad) (p0 : Int) (hp0 : inR p0) {M : Mem} (hM : inM M) {r : Int} (hf : f_X11_isDigit p0 M = some r) : MetI l D aC ad sg yX11_isDigit cX11_isDigit 1 (some .boolean) rm_X11_isDigit 0 0 [.int (i2 p0)] M r M := by
  refine MetI.ofZ (by decide +kernel) (nle rfl) hi hM (fun p e s m args below meth c Q H0 ls X hl w hret => ?_)
  exact b_X11_isDigit_0 X  (fun r1 H locs pc ls eo hP w dg => by cases eo; exact hret H locs pc ls hP w dg) p0 hp0 hf hl w
set_option maxRecDepth 100000 in
set_option maxHeartbeats 4000000 in
theorem b_X11_next_s8 (X : CX p s m args c cX11_next 2 RX11 D aC ad sg A H0) {o : (Mem) ⊕ (Mem)} (HC : ∀  (M1 : Mem) (H : Heap) (locs : List Loc) (ls : Array Slot), o = .inl M1 → lv_has ls 2 [(0, .ref (ad 80))] → WS D aC ad A H0 M1 H locs → W p l e rm_X11_next s m args below meth c H locs 0 0 Q (F0 m 8 ls [])) (HE : ∀  (M1 : Mem) (H : Heap) (locs : List Loc) (ls : Array Slot), o = .inr M1 → lv_has ls 2 [(0, .ref (ad 80))] → WS D aC ad A H0 M1 H locs → W p l e rm_X11_next s m args below meth c H locs 0 0 Q (F0 m 47 ls [])) (M : Mem) (hf : f_X11_next_s8 M = some o) {H : Heap} {locs : List Loc} {ls : Array Slot} (hl : lv_has ls 2 [(0, .ref (ad 80))]) (w : WS D aC ad A H0 M H locs) : W p l e rm_X11_next s m args below meth c H locs 0 0 Q (F0 m 8 ls []) := by
  have hx := X.1.1
  have hb := X.1.2.1
  unfold f_X11_next_s8 at hf
  refine lv_aload_n hx hb dX11_next_8 rfl (lv_at hl 0 rfl) ?_
  refine lv_aload_n hx hb dX11_next_9 rfl (lv_at hl 0 rfl) ?_
  refine g_geti X w fg_X11_216 KD_80 FR_80_35 dX11_next_10 ?_
  obtain ⟨r, hc, hf⟩ := obn_some hf
  refine g_cvi (As := [.int (i2 (M 80 35))]) (rest := []) X w (k_X11_byteAt X.2.2.1 (M 80 35) (w.2.2 _ _) w.2.2 hc) lk_X11_219 cl_11 KD_80 ⟨rfl, rfl⟩ ⟨nle rfl, nle rfl⟩ ⟨nle rfl, nle rfl⟩ hl.1 rfl (nle rfl) dX11_next_13 (fun hr H locs w => ?_)
  refine g_bipush X dX11_next_16 (by decide) ?_
  refine g_icmp_eq (tgt := 34) X hr (inL rfl) dX11_next_18 (by decide) (fun cd => ?_) (fun cd => ?_)
  · replace hf := ite_t cd hf
    refine lv_aload_n hx hb dX11_next_34 rfl (lv_at hl 0 rfl) ?_
    refine lv_dup hx hb dX11_next_35 rfl ?_
    refine g_geti X w fg_X11_216 KD_80 FR_80_35 dX11_next_36 ?_
    refine g_iconst X dX11_next_39 ?_
    refine g_iadd X dX11_next_40 ?_
    obtain ⟨M_2, eM_2, hf⟩ := lt_some hf
    refine g_puti X w fp_X11_216 KD_80 FR_80_35 (inR_wrap _) dX11_next_41 (fun H locs w_M_2 => ?_)
    rw [← eM_2] at w_M_2
    refine lv_goto (tgt := 8) hx hb dX11_next_44 (by decide) ?_
    exact HC  M_2 _ _ _ (Option.some.inj hf).symm  hl w_M_2
  · replace hf := ite_f cd hf
    refine lv_aload_n hx hb dX11_next_21 rfl (lv_at hl 0 rfl) ?_
    refine lv_aload_n hx hb dX11_next_22 rfl (lv_at hl 0 rfl) ?_
    refine g_geti X w fg_X11_216 KD_80 FR_80_35 dX11_next_23 ?_
    obtain ⟨r_2, hc, hf⟩ := obn_some hf
    refine g_cvi (As := [.int (i2 (M 80 35))]) (rest := []) X w (k_X11_byteAt X.2.2.1 (M 80 35) (w.2.2 _ _) w.2.2 hc) lk_X11_219 cl_11 KD_80 ⟨rfl, rfl⟩ ⟨nle rfl, nle rfl⟩ ⟨nle rfl, nle rfl⟩ hl.1 rfl (nle rfl) dX11_next_26 (fun hr_2 H locs w => ?_)
    refine g_bipush X dX11_next_29 (by decide) ?_
    refine g_icmp_ne (tgt := 47) X hr_2 (inL rfl) dX11_next_31 (by decide) (fun cd_2 => ?_) (fun cd_2 => ?_)
    · replace hf := ite_f cd_2 hf
      exact HE  M _ _ _ (Option.some.inj hf).symm  hl w
    · replace hf := ite_t cd_2 hf
      refine lv_aload_n hx hb dX11_next_34 rfl (lv_at hl 0 rfl) ?_
      refine lv_dup hx hb dX11_next_35 rfl ?_
      refine g_geti X w fg_X11_216 KD_80 FR_80_35 dX11_next_36 ?_
      refine g_iconst X dX11_next_39 ?_
      refine g_iadd X dX11_next_40 ?_
      obtain ⟨M_3, eM_3, hf⟩ := lt_some hf
      refine g_puti X w fp_X11_216 KD_80 FR_80_35 (inR_wrap _) dX11_next_41 (fun H locs w_M_3 => ?_)
      rw [← eM_3] at w_M_3
      refine lv_goto (tgt := 8) hx hb dX11_next_44 (by decide) ?_
      exact HC  M_3 _ _ _ (Option.some.inj hf).symm  hl w_M_3
set_option maxRecDepth 100000 in
set_option maxHeartbeats 4000000 in
theorem l_X11_next_8 (X : CX p s m args c cX11_next 2 RX11 D aC ad sg A H0) {out : Mem} (HE : ∀  (M1 : Mem) (H : Heap) (locs : List Loc) (ls : Array Slot), out = M1 → lv_has ls 2 [(0, .ref (ad 80))] → WS D aC ad A H0 M1 H locs → W p l e rm_X11_next s m args below meth c H locs 0 0 Q (F0 m 47 ls [])) : ∀ (n : Nat)  (M : Mem), whl (fun s => f_X11_next_s8 s) n M = some out → ∀ {H : Heap} {locs : List Loc} {ls : Array Slot}, lv_has ls 2 [(0, .ref (ad 80))] → WS D aC ad A H0 M H locs → W p l e rm_X11_next s m args below meth c H locs 0 0 Q (F0 m 8 ls []) := by
  intro n
  induction n with
  | zero => intro M hf; exact (whl_zero hf).elim
  | succ n ih =>
    intro M hf  H locs ls hl w
    obtain ⟨o, hf, hk1, hk2⟩ := whl_step hf
    exact b_X11_next_s8 X  (fun  M1 H locs ls eo  hl w => ih  M1 (hk1 _ eo)  hl w) (fun  M1 H locs ls eo  hl w => HE  M1 H locs ls (hk2 _ eo).symm  hl w)  M hf hl w
set_option maxRecDepth 100000 in
set_option maxHeartbeats 4000000 in
theorem b_X11_next_s137 (X : CX p s m args c cX11_next 2 RX11 D aC ad sg A H0) {o : (Mem) ⊕ (Mem)} (HC : ∀  (M1 : Mem) (H : Heap) (locs : List Loc) (ls : Array Slot), o = .inl M1 → lv_has ls 2 [(0, .ref (ad 80))] → WS D aC ad A H0 M1 H locs → W p l e rm_X11_next s m args below meth c H locs 0 0 Q (F0 m 137 ls [])) (HE : ∀  (M1 : Mem) (H : Heap) (locs : List Loc) (ls : Array Slot), o = .inr M1 → lv_has ls 2 [(0, .ref (ad 80))] → WS D aC ad A H0 M1 H locs → W p l e rm_X11_next s m args below meth c H locs 0 0 Q (F0 m 200 ls [])) (M : Mem) (hf : f_X11_next_s137 M = some o) {H : Heap} {locs : List Loc} {ls : Array Slot} (hl : lv_has ls 2 [(0, .ref (ad 80))]) (w : WS D aC ad A H0 M H locs) : W p l e rm_X11_next s m args below meth c H locs 0 0 Q (F0 m 137 ls []) := by
  have hx := X.1.1
  have hb := X.1.2.1
  unfold f_X11_next_s137 at hf
  refine lv_aload_n hx hb dX11_next_137 rfl (lv_at hl 0 rfl) ?_
  refine lv_aload_n hx hb dX11_next_138 rfl (lv_at hl 0 rfl) ?_
  refine g_geti X w fg_X11_213 KD_80 FR_80_36 dX11_next_139 ?_
  obtain ⟨r, hc, hf⟩ := obn_some hf
  refine g_cvi (As := [.int (i2 (M 80 36))]) (rest := []) X w (k_X11_byteAt X.2.2.1 (M 80 36) (w.2.2 _ _) w.2.2 hc) lk_X11_219 cl_11 KD_80 ⟨rfl, rfl⟩ ⟨nle rfl, nle rfl⟩ ⟨nle rfl, nle rfl⟩ hl.1 rfl (nle rfl) dX11_next_142 (fun hr H locs w => ?_)
  obtain ⟨r_2, hc, hf⟩ := obn_some hf
  refine g_csi (As := [.int (i2 r)]) (rest := []) X w (k_X11_isDigit X.2.2.1 r hr w.2.2 hc) lk_X11_229 ⟨rfl, rfl⟩ ⟨nle rfl, nle rfl⟩ ⟨nle rfl, nle rfl⟩ hl.1 rfl (nle rfl) dX11_next_145 (fun hr_2 H locs w => ?_)
  refine g_if_eq (tgt := 200) X hr_2 dX11_next_148 (by decide) (fun cd => ?_) (fun cd => ?_)
  · replace hf := ite_t cd hf
    exact HE  M _ _ _ (Option.some.inj hf).symm  hl w
  · replace hf := ite_f cd hf
    refine lv_aload_n hx hb dX11_next_151 rfl (lv_at hl 0 rfl) ?_
    refine g_geti X w fg_X11_213 KD_80 FR_80_36 dX11_next_152 ?_
    refine lv_aload_n hx hb dX11_next_155 rfl (lv_at hl 0 rfl) ?_
    refine g_geti X w fg_X11_216 KD_80 FR_80_35 dX11_next_156 ?_
    refine g_isub X dX11_next_159 ?_
    refine g_iconst X dX11_next_160 ?_
    refine g_icmp_ge (tgt := 187) X (inR_wrap _) (inL rfl) dX11_next_161 (by decide) (fun cd_2 => ?_) (fun cd_2 => ?_)
    · replace hf := ite_t cd_2 hf
      refine lv_aload_n hx hb dX11_next_187 rfl (lv_at hl 0 rfl) ?_
      refine lv_dup hx hb dX11_next_188 rfl ?_
      refine g_geti X w fg_X11_213 KD_80 FR_80_36 dX11_next_189 ?_
      refine g_iconst X dX11_next_192 ?_
      refine g_iadd X dX11_next_193 ?_
      obtain ⟨M_2, eM_2, hf⟩ := lt_some hf
      refine g_puti X w fp_X11_213 KD_80 FR_80_36 (inR_wrap _) dX11_next_194 (fun H locs w_M_2 => ?_)
      rw [← eM_2] at w_M_2
      refine lv_goto (tgt := 137) hx hb dX11_next_197 (by decide) ?_
      exact HC  M_2 _ _ _ (Option.some.inj hf).symm  hl w_M_2
    · replace hf := ite_f cd_2 hf
      refine lv_aload_n hx hb dX11_next_164 rfl (lv_at hl 0 rfl) ?_
      refine g_bipush X dX11_next_165 (by decide) ?_
      refine lv_aload_n hx hb dX11_next_167 rfl (lv_at hl 0 rfl) ?_
      refine g_geti X w fg_X11_232 KD_80 FR_80_37 dX11_next_168 ?_
      refine g_imul X dX11_next_171 ?_
      refine lv_aload_n hx hb dX11_next_172 rfl (lv_at hl 0 rfl) ?_
      refine lv_aload_n hx hb dX11_next_173 rfl (lv_at hl 0 rfl) ?_
      refine g_geti X w fg_X11_213 KD_80 FR_80_36 dX11_next_174 ?_
      obtain ⟨r_3, hc, hf⟩ := obn_some hf
      refine g_cvi (As := [.int (i2 (M 80 36))]) (rest := [.int (i2 (wrap (10 * (M 80 37)))), .ref (ad 80)]) X w (k_X11_byteAt X.2.2.1 (M 80 36) (w.2.2 _ _) w.2.2 hc) lk_X11_219 cl_11 KD_80 ⟨rfl, rfl⟩ ⟨nle rfl, nle rfl⟩ ⟨nle rfl, nle rfl⟩ hl.1 rfl (nle rfl) dX11_next_177 (fun hr_3 H locs w => ?_)
      refine g_iadd X dX11_next_180 ?_
      refine g_bipush X dX11_next_181 (by decide) ?_
      refine g_isub X dX11_next_183 ?_
      obtain ⟨M_3, eM_3, hf⟩ := lt_some hf
      refine g_puti X w fp_X11_232 KD_80 FR_80_37 (inR_wrap _) dX11_next_184 (fun H locs w_M_3 => ?_)
      rw [← eM_3] at w_M_3
      refine lv_aload_n hx hb dX11_next_187 rfl (lv_at hl 0 rfl) ?_
      refine lv_dup hx hb dX11_next_188 rfl ?_
      refine g_geti X w_M_3 fg_X11_213 KD_80 FR_80_36 dX11_next_189 ?_
      refine g_iconst X dX11_next_192 ?_
      refine g_iadd X dX11_next_193 ?_
      obtain ⟨M_4, eM_4, hf⟩ := lt_some hf
      refine g_puti X w_M_3 fp_X11_213 KD_80 FR_80_36 (inR_wrap _) dX11_next_194 (fun H locs w_M_4 => ?_)
      rw [← eM_4] at w_M_4
      refine lv_goto (tgt := 137) hx hb dX11_next_197 (by decide) ?_
      exact HC  M_4 _ _ _ (Option.some.inj hf).symm  hl w_M_4
set_option maxRecDepth 100000 in
set_option maxHeartbeats 4000000 in
theorem l_X11_next_137 (X : CX p s m args c cX11_next 2 RX11 D aC ad sg A H0) {out : Mem} (HE : ∀  (M1 : Mem) (H : Heap) (locs : List Loc) (ls : Array Slot), out = M1 → lv_has ls 2 [(0, .ref (ad 80))] → WS D aC ad A H0 M1 H locs → W p l e rm_X11_next s m args below meth c H locs 0 0 Q (F0 m 200 ls [])) : ∀ (n : Nat)  (M : Mem), whl (fun s => f_X11_next_s137 s) n M = some out → ∀ {H : Heap} {locs : List Loc} {ls : Array Slot}, lv_has ls 2 [(0, .ref (ad 80))] → WS D aC ad A H0 M H locs → W p l e rm_X11_next s m args below meth c H locs 0 0 Q (F0 m 137 ls []) := by
  intro n
  induction n with
  | zero => intro M hf; exact (whl_zero hf).elim
  | succ n ih =>
    intro M hf  H locs ls hl w
    obtain ⟨o, hf, hk1, hk2⟩ := whl_step hf
    exact b_X11_next_s137 X  (fun  M1 H locs ls eo  hl w => ih  M1 (hk1 _ eo)  hl w) (fun  M1 H locs ls eo  hl w => HE  M1 H locs ls (hk2 _ eo).symm  hl w)  M hf hl w
set_option maxRecDepth 100000 in
set_option maxHeartbeats 4000000 in
theorem b_X11_next_j200 (X : CX p s m args c cX11_next 2 RX11 D aC ad sg A H0) {o : Mem} (HR : ∀ (M1 : Mem) (H : Heap) (locs : List Loc) (pc : Nat) (ls : Array Slot), o = M1 → WS D aC ad A H0 M1 H locs → decode cX11_next pc = .ok (.return_, 1) → W p l e rm_X11_next s m args below meth c H locs 0 0 Q (F0 m pc ls [])) (M : Mem) (hf : f_X11_next_j200 M = some o) {H : Heap} {locs : List Loc} {ls : Array Slot} (hl : lv_has ls 2 [(0, .ref (ad 80))]) (w : WS D aC ad A H0 M H locs) : W p l e rm_X11_next s m args below meth c H locs 0 0 Q (F0 m 200 ls []) := by
  have hx := X.1.1
  have hb := X.1.2.1
  unfold f_X11_next_j200 at hf
  refine lv_aload_n hx hb dX11_next_200 rfl (lv_at hl 0 rfl) ?_
  refine lv_aload_n hx hb dX11_next_201 rfl (lv_at hl 0 rfl) ?_
  refine g_geti X w fg_X11_213 KD_80 FR_80_36 dX11_next_202 ?_
  refine lv_aload_n hx hb dX11_next_205 rfl (lv_at hl 0 rfl) ?_
  refine g_geti X w fg_X11_216 KD_80 FR_80_35 dX11_next_206 ?_
  refine g_isub X dX11_next_209 ?_
  refine g_iconst X dX11_next_210 ?_
  refine g_icmp_le (tgt := 218) X (inR_wrap _) (inL rfl) dX11_next_211 (by decide) (fun cd => ?_) (fun cd => ?_)
  · replace hf := ite_t cd hf
    refine g_iconst X dX11_next_218 ?_
    obtain ⟨M_2, eM_2, hf⟩ := lt_some hf
    refine g_puti X w fp_X11_223 KD_80 FR_80_38 (inL rfl) dX11_next_219 (fun H locs w_M_2 => ?_)
    rw [← eM_2] at w_M_2
    refine lv_goto (tgt := 274) hx hb dX11_next_222 (by decide) ?_
    exact HR M_2 _ _ _ _ (Option.some.inj hf).symm w_M_2 dX11_next_274
  · replace hf := ite_f cd hf
    refine g_iconst X dX11_next_214 ?_
    refine lv_goto (tgt := 219) hx hb dX11_next_215 (by decide) ?_
    obtain ⟨M_3, eM_3, hf⟩ := lt_some hf
    refine g_puti X w fp_X11_223 KD_80 FR_80_38 (inL rfl) dX11_next_219 (fun H locs w_M_3 => ?_)
    rw [← eM_3] at w_M_3
    refine lv_goto (tgt := 274) hx hb dX11_next_222 (by decide) ?_
    exact HR M_3 _ _ _ _ (Option.some.inj hf).symm w_M_3 dX11_next_274
set_option maxRecDepth 100000 in
set_option maxHeartbeats 4000000 in
theorem b_X11_next_s90 (X : CX p s m args c cX11_next 2 RX11 D aC ad sg A H0) {o : (Mem) ⊕ (Mem)} (HC : ∀  (M1 : Mem) (H : Heap) (locs : List Loc) (ls : Array Slot), o = .inl M1 → lv_has ls 2 [(0, .ref (ad 80))] → WS D aC ad A H0 M1 H locs → W p l e rm_X11_next s m args below meth c H locs 0 0 Q (F0 m 90 ls [])) (HE : ∀  (M1 : Mem) (H : Heap) (locs : List Loc) (ls : Array Slot), o = .inr M1 → lv_has ls 2 [(0, .ref (ad 80))] → WS D aC ad A H0 M1 H locs → W p l e rm_X11_next s m args below meth c H locs 0 0 Q (F0 m 117 ls [])) (M : Mem) (hf : f_X11_next_s90 M = some o) {H : Heap} {locs : List Loc} {ls : Array Slot} (hl : lv_has ls 2 [(0, .ref (ad 80))]) (w : WS D aC ad A H0 M H locs) : W p l e rm_X11_next s m args below meth c H locs 0 0 Q (F0 m 90 ls []) := by
  have hx := X.1.1
  have hb := X.1.2.1
  unfold f_X11_next_s90 at hf
  refine lv_aload_n hx hb dX11_next_90 rfl (lv_at hl 0 rfl) ?_
  refine lv_aload_n hx hb dX11_next_91 rfl (lv_at hl 0 rfl) ?_
  refine g_geti X w fg_X11_213 KD_80 FR_80_36 dX11_next_92 ?_
  obtain ⟨r, hc, hf⟩ := obn_some hf
  refine g_cvi (As := [.int (i2 (M 80 36))]) (rest := []) X w (k_X11_byteAt X.2.2.1 (M 80 36) (w.2.2 _ _) w.2.2 hc) lk_X11_219 cl_11 KD_80 ⟨rfl, rfl⟩ ⟨nle rfl, nle rfl⟩ ⟨nle rfl, nle rfl⟩ hl.1 rfl (nle rfl) dX11_next_95 (fun hr H locs w => ?_)
  obtain ⟨r_2, hc, hf⟩ := obn_some hf
  refine g_csi (As := [.int (i2 r)]) (rest := []) X w (k_X11_isSmall X.2.2.1 r hr w.2.2 hc) lk_X11_226 ⟨rfl, rfl⟩ ⟨nle rfl, nle rfl⟩ ⟨nle rfl, nle rfl⟩ hl.1 rfl (nle rfl) dX11_next_98 (fun hr_2 H locs w => ?_)
  refine g_if_eq (tgt := 117) X hr_2 dX11_next_101 (by decide) (fun cd => ?_) (fun cd => ?_)
  · replace hf := ite_t cd hf
    exact HE  M _ _ _ (Option.some.inj hf).symm  hl w
  · replace hf := ite_f cd hf
    refine lv_aload_n hx hb dX11_next_104 rfl (lv_at hl 0 rfl) ?_
    refine lv_dup hx hb dX11_next_105 rfl ?_
    refine g_geti X w fg_X11_213 KD_80 FR_80_36 dX11_next_106 ?_
    refine g_iconst X dX11_next_109 ?_
    refine g_iadd X dX11_next_110 ?_
    obtain ⟨M_2, eM_2, hf⟩ := lt_some hf
    refine g_puti X w fp_X11_213 KD_80 FR_80_36 (inR_wrap _) dX11_next_111 (fun H locs w_M_2 => ?_)
    rw [← eM_2] at w_M_2
    refine lv_goto (tgt := 90) hx hb dX11_next_114 (by decide) ?_
    exact HC  M_2 _ _ _ (Option.some.inj hf).symm  hl w_M_2
set_option maxRecDepth 100000 in
set_option maxHeartbeats 4000000 in
theorem l_X11_next_90 (X : CX p s m args c cX11_next 2 RX11 D aC ad sg A H0) {out : Mem} (HE : ∀  (M1 : Mem) (H : Heap) (locs : List Loc) (ls : Array Slot), out = M1 → lv_has ls 2 [(0, .ref (ad 80))] → WS D aC ad A H0 M1 H locs → W p l e rm_X11_next s m args below meth c H locs 0 0 Q (F0 m 117 ls [])) : ∀ (n : Nat)  (M : Mem), whl (fun s => f_X11_next_s90 s) n M = some out → ∀ {H : Heap} {locs : List Loc} {ls : Array Slot}, lv_has ls 2 [(0, .ref (ad 80))] → WS D aC ad A H0 M H locs → W p l e rm_X11_next s m args below meth c H locs 0 0 Q (F0 m 90 ls []) := by
  intro n
  induction n with
  | zero => intro M hf; exact (whl_zero hf).elim
  | succ n ih =>
    intro M hf  H locs ls hl w
    obtain ⟨o, hf, hk1, hk2⟩ := whl_step hf
    exact b_X11_next_s90 X  (fun  M1 H locs ls eo  hl w => ih  M1 (hk1 _ eo)  hl w) (fun  M1 H locs ls eo  hl w => HE  M1 H locs ls (hk2 _ eo).symm  hl w)  M hf hl w
set_option maxRecDepth 100000 in
set_option maxHeartbeats 4000000 in
theorem b_X11_next_j117 (X : CX p s m args c cX11_next 2 RX11 D aC ad sg A H0) {o : Mem} (HR : ∀ (M1 : Mem) (H : Heap) (locs : List Loc) (pc : Nat) (ls : Array Slot), o = M1 → WS D aC ad A H0 M1 H locs → decode cX11_next pc = .ok (.return_, 1) → W p l e rm_X11_next s m args below meth c H locs 0 0 Q (F0 m pc ls [])) (M : Mem) (hf : f_X11_next_j117 M = some o) {H : Heap} {locs : List Loc} {ls : Array Slot} (hl : lv_has ls 2 [(0, .ref (ad 80))]) (w : WS D aC ad A H0 M H locs) : W p l e rm_X11_next s m args below meth c H locs 0 0 Q (F0 m 117 ls []) := by
  have hx := X.1.1
  have hb := X.1.2.1
  unfold f_X11_next_j117 at hf
  refine lv_aload_n hx hb dX11_next_117 rfl (lv_at hl 0 rfl) ?_
  refine g_iconst X dX11_next_118 ?_
  obtain ⟨M_2, eM_2, hf⟩ := lt_some hf
  refine g_puti X w fp_X11_223 KD_80 FR_80_38 (inL rfl) dX11_next_119 (fun H locs w_M_2 => ?_)
  rw [← eM_2] at w_M_2
  refine lv_goto (tgt := 274) hx hb dX11_next_122 (by decide) ?_
  exact HR M_2 _ _ _ _ (Option.some.inj hf).symm w_M_2 dX11_next_274
set_option maxRecDepth 100000 in
set_option maxHeartbeats 4000000 in
theorem b_X11_next_j47 (X : CX p s m args c cX11_next 2 RX11 D aC ad sg A H0) {o : Mem} (HR : ∀ (M1 : Mem) (H : Heap) (locs : List Loc) (pc : Nat) (ls : Array Slot), o = M1 → WS D aC ad A H0 M1 H locs → decode cX11_next pc = .ok (.return_, 1) → W p l e rm_X11_next s m args below meth c H locs 0 0 Q (F0 m pc ls [])) (M : Mem) (hf : f_X11_next_j47 M = some o) {H : Heap} {locs : List Loc} {ls : Array Slot} (hl : lv_has ls 2 [(0, .ref (ad 80))]) (w : WS D aC ad A H0 M H locs) : W p l e rm_X11_next s m args below meth c H locs 0 0 Q (F0 m 47 ls []) := by
  have hx := X.1.1
  have hb := X.1.2.1
  unfold f_X11_next_j47 at hf
  refine lv_aload_n hx hb dX11_next_47 rfl (lv_at hl 0 rfl) ?_
  refine lv_aload_n hx hb dX11_next_48 rfl (lv_at hl 0 rfl) ?_
  refine g_geti X w fg_X11_216 KD_80 FR_80_35 dX11_next_49 ?_
  obtain ⟨M_2, eM_2, hf⟩ := lt_some hf
  refine g_puti X w fp_X11_213 KD_80 FR_80_36 (w.2.2 _ _) dX11_next_52 (fun H locs w_M_2 => ?_)
  rw [← eM_2] at w_M_2
  refine lv_aload_n hx hb dX11_next_55 rfl (lv_at hl 0 rfl) ?_
  refine lv_aload_n hx hb dX11_next_56 rfl (lv_at hl 0 rfl) ?_
  refine g_geti X w_M_2 fg_X11_216 KD_80 FR_80_35 dX11_next_57 ?_
  obtain ⟨r, hc, hf⟩ := obn_some hf
  refine g_cvi (As := [.int (i2 (M_2 80 35))]) (rest := []) X w_M_2 (k_X11_byteAt X.2.2.1 (M_2 80 35) (w_M_2.2.2 _ _) w_M_2.2.2 hc) lk_X11_219 cl_11 KD_80 ⟨rfl, rfl⟩ ⟨nle rfl, nle rfl⟩ ⟨nle rfl, nle rfl⟩ hl.1 rfl (nle rfl) dX11_next_60 (fun hr H locs w_M_2 => ?_)
  refine g_istn (v := r) (lv' := [(1, .int (i2 r)), (0, .ref (ad 80))]) X rfl dX11_next_63 rfl hl (by decide) rfl (fun ls hl => ?_)
  refine lv_aload_n hx hb dX11_next_64 rfl (lv_at hl 1 rfl) ?_
  refine g_geti X w_M_2 fg_X11_216 KD_80 FR_80_35 dX11_next_65 ?_
  refine lv_aload_n hx hb dX11_next_68 rfl (lv_at hl 1 rfl) ?_
  refine g_geti X w_M_2 fg_X11_210 KD_80 FR_80_32 dX11_next_69 ?_
  refine g_icmp_lt (tgt := 83) X (w_M_2.2.2 _ _) (w_M_2.2.2 _ _) dX11_next_72 (by decide) (fun cd => ?_) (fun cd => ?_)
  · replace hf := ite_t cd hf
    refine lv_iload_n hx hb dX11_next_83 rfl (lv_at hl 0 rfl) ?_
    obtain ⟨r_2, hc, hf⟩ := obn_some hf
    refine g_csi (As := [.int (i2 r)]) (rest := []) X w_M_2 (k_X11_isSmall X.2.2.1 r hr w_M_2.2.2 hc) lk_X11_226 ⟨rfl, rfl⟩ ⟨nle rfl, nle rfl⟩ ⟨nle rfl, nle rfl⟩ hl.1 rfl (nle rfl) dX11_next_84 (fun hr_2 H locs w_M_2 => ?_)
    refine g_if_eq (tgt := 125) X hr_2 dX11_next_87 (by decide) (fun cd_2 => ?_) (fun cd_2 => ?_)
    · replace hf := ite_t cd_2 hf
      refine lv_iload_n hx hb dX11_next_125 rfl (lv_at hl 0 rfl) ?_
      obtain ⟨r_3, hc, hf⟩ := obn_some hf
      refine g_csi (As := [.int (i2 r)]) (rest := []) X w_M_2 (k_X11_isDigit X.2.2.1 r hr w_M_2.2.2 hc) lk_X11_229 ⟨rfl, rfl⟩ ⟨nle rfl, nle rfl⟩ ⟨nle rfl, nle rfl⟩ hl.1 rfl (nle rfl) dX11_next_126 (fun hr_3 H locs w_M_2 => ?_)
      refine g_if_eq (tgt := 225) X hr_3 dX11_next_129 (by decide) (fun cd_3 => ?_) (fun cd_3 => ?_)
      · replace hf := ite_t cd_3 hf
        refine lv_aload_n hx hb dX11_next_225 rfl (lv_at hl 1 rfl) ?_
        refine lv_dup hx hb dX11_next_226 rfl ?_
        refine g_geti X w_M_2 fg_X11_213 KD_80 FR_80_36 dX11_next_227 ?_
        refine g_iconst X dX11_next_230 ?_
        refine g_iadd X dX11_next_231 ?_
        obtain ⟨M_3, eM_3, hf⟩ := lt_some hf
        refine g_puti X w_M_2 fp_X11_213 KD_80 FR_80_36 (inR_wrap _) dX11_next_232 (fun H locs w_M_3 => ?_)
        rw [← eM_3] at w_M_3
        refine lv_aload_n hx hb dX11_next_235 rfl (lv_at hl 1 rfl) ?_
        refine lv_iload_n hx hb dX11_next_236 rfl (lv_at hl 0 rfl) ?_
        refine g_bipush X dX11_next_237 (by decide) ?_
        refine g_icmp_eq (tgt := 266) X hr (inL rfl) dX11_next_239 (by decide) (fun cd_4 => ?_) (fun cd_4 => ?_)
        · replace hf := ite_t cd_4 hf
          refine g_iconst X dX11_next_266 ?_
          refine lv_goto (tgt := 271) hx hb dX11_next_267 (by decide) ?_
          obtain ⟨M_4, eM_4, hf⟩ := lt_some hf
          refine g_puti X w_M_3 fp_X11_223 KD_80 FR_80_38 (inL rfl) dX11_next_271 (fun H locs w_M_4 => ?_)
          rw [← eM_4] at w_M_4
          exact HR M_4 _ _ _ _ (Option.some.inj hf).symm w_M_4 dX11_next_274
        · replace hf := ite_f cd_4 hf
          refine lv_iload_n hx hb dX11_next_242 rfl (lv_at hl 0 rfl) ?_
          refine g_bipush X dX11_next_243 (by decide) ?_
          refine g_icmp_eq (tgt := 266) X hr (inL rfl) dX11_next_245 (by decide) (fun cd_5 => ?_) (fun cd_5 => ?_)
          · replace hf := ite_t cd_5 hf
            refine g_iconst X dX11_next_266 ?_
            refine lv_goto (tgt := 271) hx hb dX11_next_267 (by decide) ?_
            obtain ⟨M_5, eM_5, hf⟩ := lt_some hf
            refine g_puti X w_M_3 fp_X11_223 KD_80 FR_80_38 (inL rfl) dX11_next_271 (fun H locs w_M_5 => ?_)
            rw [← eM_5] at w_M_5
            exact HR M_5 _ _ _ _ (Option.some.inj hf).symm w_M_5 dX11_next_274
          · replace hf := ite_f cd_5 hf
            refine lv_iload_n hx hb dX11_next_248 rfl (lv_at hl 0 rfl) ?_
            refine g_bipush X dX11_next_249 (by decide) ?_
            refine g_icmp_eq (tgt := 266) X hr (inL rfl) dX11_next_251 (by decide) (fun cd_6 => ?_) (fun cd_6 => ?_)
            · replace hf := ite_t cd_6 hf
              refine g_iconst X dX11_next_266 ?_
              refine lv_goto (tgt := 271) hx hb dX11_next_267 (by decide) ?_
              obtain ⟨M_6, eM_6, hf⟩ := lt_some hf
              refine g_puti X w_M_3 fp_X11_223 KD_80 FR_80_38 (inL rfl) dX11_next_271 (fun H locs w_M_6 => ?_)
              rw [← eM_6] at w_M_6
              exact HR M_6 _ _ _ _ (Option.some.inj hf).symm w_M_6 dX11_next_274
            · replace hf := ite_f cd_6 hf
              refine lv_iload_n hx hb dX11_next_254 rfl (lv_at hl 0 rfl) ?_
              refine g_bipush X dX11_next_255 (by decide) ?_
              refine g_icmp_eq (tgt := 266) X hr (inL rfl) dX11_next_257 (by decide) (fun cd_7 => ?_) (fun cd_7 => ?_)
              · replace hf := ite_t cd_7 hf
                refine g_iconst X dX11_next_266 ?_
                refine lv_goto (tgt := 271) hx hb dX11_next_267 (by decide) ?_
                obtain ⟨M_7, eM_7, hf⟩ := lt_some hf
                refine g_puti X w_M_3 fp_X11_223 KD_80 FR_80_38 (inL rfl) dX11_next_271 (fun H locs w_M_7 => ?_)
                rw [← eM_7] at w_M_7
                exact HR M_7 _ _ _ _ (Option.some.inj hf).symm w_M_7 dX11_next_274
              · replace hf := ite_f cd_7 hf
                refine lv_iload_n hx hb dX11_next_260 rfl (lv_at hl 0 rfl) ?_
                refine g_bipush X dX11_next_261 (by decide) ?_
                refine g_icmp_ne (tgt := 270) X hr (inL rfl) dX11_next_263 (by decide) (fun cd_8 => ?_) (fun cd_8 => ?_)
                · replace hf := ite_f cd_8 hf
                  refine g_iconst X dX11_next_270 ?_
                  obtain ⟨M_8, eM_8, hf⟩ := lt_some hf
                  refine g_puti X w_M_3 fp_X11_223 KD_80 FR_80_38 (inL rfl) dX11_next_271 (fun H locs w_M_8 => ?_)
                  rw [← eM_8] at w_M_8
                  exact HR M_8 _ _ _ _ (Option.some.inj hf).symm w_M_8 dX11_next_274
                · replace hf := ite_t cd_8 hf
                  refine g_iconst X dX11_next_266 ?_
                  refine lv_goto (tgt := 271) hx hb dX11_next_267 (by decide) ?_
                  obtain ⟨M_9, eM_9, hf⟩ := lt_some hf
                  refine g_puti X w_M_3 fp_X11_223 KD_80 FR_80_38 (inL rfl) dX11_next_271 (fun H locs w_M_9 => ?_)
                  rw [← eM_9] at w_M_9
                  exact HR M_9 _ _ _ _ (Option.some.inj hf).symm w_M_9 dX11_next_274
      · replace hf := ite_f cd_3 hf
        refine lv_aload_n hx hb dX11_next_132 rfl (lv_at hl 1 rfl) ?_
        refine g_iconst X dX11_next_133 ?_
        obtain ⟨M_10, eM_10, hf⟩ := lt_some hf
        refine g_puti X w_M_2 fp_X11_232 KD_80 FR_80_37 (inL rfl) dX11_next_134 (fun H locs w_M_10 => ?_)
        rw [← eM_10] at w_M_10
        obtain ⟨q, hq, h1⟩ := obn_some hf
        exact l_X11_next_137 X  (out := q) (fun  M1 H locs ls eq  hl w => b_X11_next_j200 X  HR M1 (by subst eq; exact h1) hl w)  FU M_10 hq  (lv_sub hl [1] rfl) w_M_10
    · replace hf := ite_f cd_2 hf
      obtain ⟨q, hq, h1⟩ := obn_some hf
      exact l_X11_next_90 X  (out := q) (fun  M1 H locs ls eq  hl w => b_X11_next_j117 X  HR M1 (by subst eq; exact h1) hl w)  FU M_2 hq  (lv_sub hl [1] rfl) w_M_2
  · replace hf := ite_f cd hf
    refine lv_aload_n hx hb dX11_next_75 rfl (lv_at hl 1 rfl) ?_
    refine g_iconst X dX11_next_76 ?_
    obtain ⟨M_11, eM_11, hf⟩ := lt_some hf
    refine g_puti X w_M_2 fp_X11_223 KD_80 FR_80_38 (inL rfl) dX11_next_77 (fun H locs w_M_11 => ?_)
    rw [← eM_11] at w_M_11
    refine lv_goto (tgt := 274) hx hb dX11_next_80 (by decide) ?_
    exact HR M_11 _ _ _ _ (Option.some.inj hf).symm w_M_11 dX11_next_274
set_option maxRecDepth 100000 in
set_option maxHeartbeats 4000000 in
theorem b_X11_next_0 (X : CX p s m args c cX11_next 2 RX11 D aC ad sg A H0) {o : Mem} (HR : ∀ (M1 : Mem) (H : Heap) (locs : List Loc) (pc : Nat) (ls : Array Slot), o = M1 → WS D aC ad A H0 M1 H locs → decode cX11_next pc = .ok (.return_, 1) → W p l e rm_X11_next s m args below meth c H locs 0 0 Q (F0 m pc ls [])) (M : Mem) (hf : f_X11_next M = some o) {H : Heap} {locs : List Loc} {ls : Array Slot} (hl : lv_has ls 2 [(0, .ref (ad 80))]) (w : WS D aC ad A H0 M H locs) : W p l e rm_X11_next s m args below meth c H locs 0 0 Q (F0 m 0 ls []) := by
  have hx := X.1.1
  have hb := X.1.2.1
  unfold f_X11_next at hf
  refine lv_aload_n hx hb dX11_next_0 rfl (lv_at hl 0 rfl) ?_
  refine lv_aload_n hx hb dX11_next_1 rfl (lv_at hl 0 rfl) ?_
  refine g_geti X w fg_X11_213 KD_80 FR_80_36 dX11_next_2 ?_
  obtain ⟨M_2, eM_2, hf⟩ := lt_some hf
  refine g_puti X w fp_X11_216 KD_80 FR_80_35 (w.2.2 _ _) dX11_next_5 (fun H locs w_M_2 => ?_)
  rw [← eM_2] at w_M_2
  obtain ⟨q, hq, h1⟩ := obn_some hf
  exact l_X11_next_8 X  (out := q) (fun  M1 H locs ls eq  hl w => b_X11_next_j47 X  HR M1 (by subst eq; exact h1) hl w)  FU M_2 hq  hl w_M_2
set_option maxRecDepth 100000 in
set_option maxHeartbeats 4000000 in
theorem k_X11_next {l : Launch} {D : va_G} {aC : Nat → ClassId} {ad : Nat → Nat} {sg : SG} (hi : Inj ad)  {M : Mem} (hM : inM M) {M' : Mem} (hf : f_X11_next M = some M') : MetV l D aC ad sg yX11_next cX11_next 2 rm_X11_next 0 0 [.ref (ad 80)] M M' := by
  refine MetV.of (by decide +kernel) (nle rfl) hi hM (fun p e s m args below meth c Q H0 ls X hl w hret => ?_)
  exact b_X11_next_0 X  (fun M1 H locs pc ls eo w dg => by cases eo; exact hret H locs pc ls w dg) M hf hl w
set_option maxRecDepth 100000 in
set_option maxHeartbeats 4000000 in
theorem b_X11_sortWord_0 (X : CX p s m args c cX11_sortWord 1 RX11 D aC ad sg A H0) {M : Mem} {o : Int} (HR : ∀ (r : Int) (H : Heap) (locs : List Loc) (pc : Nat) (ls : Array Slot), o = r → (0 ≤ r ∧ r < 27) → WS D aC ad A H0 M H locs → decode cX11_sortWord pc = .ok (.areturn, 1) → W p l e rm_X11_sortWord s m args below meth c H locs 0 0 Q (F0 m pc ls [.ref (sg.1 r.toNat)])) (p0 : Int) (hp0 : inR p0) (hf : f_X11_sortWord p0 M = some o) {H : Heap} {locs : List Loc} {ls : Array Slot} (hl : lv_has ls 1 [(0, .int (i2 p0))]) (w : WS D aC ad A H0 M H locs) : W p l e rm_X11_sortWord s m args below meth c H locs 0 0 Q (F0 m 0 ls []) := by
  have hx := X.1.1
  have hb := X.1.2.1
  unfold f_X11_sortWord at hf
  refine lv_iload_n hx hb dX11_sortWord_0 rfl (lv_at hl 0 rfl) ?_
  by_cases cd : p0 < 0 ∨ 7 < p0
  · replace hf := ite_t cd hf
    refine g_tout (tgt := 72) X hp0 cd dX11_sortWord_1 (by decide) ?_
    refine g_ldcs X (i := 13) (by decide) rfl rfl dX11_sortWord_72 ?_
    exact HR 13 _ _ _ _ (Option.some.inj hf).symm (by decide) w dX11_sortWord_74
  · replace hf := ite_f cd hf
    by_cases cd_2 : p0 = 0
    · replace hf := ite_t cd_2 hf
      refine g_tin (tgt := 48) (k := 0) (off := 47) X cd_2 hp0 (by decide) (by decide) (by rfl) dX11_sortWord_1 (by decide) ?_
      refine g_ldcs X (i := 5) (by decide) rfl rfl dX11_sortWord_48 ?_
      exact HR 5 _ _ _ _ (Option.some.inj hf).symm (by decide) w dX11_sortWord_50
    · replace hf := ite_f cd_2 hf
      by_cases cd_3 : p0 = 1
      · replace hf := ite_t cd_3 hf
        refine g_tin (tgt := 51) (k := 1) (off := 50) X cd_3 hp0 (by decide) (by decide) (by rfl) dX11_sortWord_1 (by decide) ?_
        refine g_ldcs X (i := 6) (by decide) rfl rfl dX11_sortWord_51 ?_
        exact HR 6 _ _ _ _ (Option.some.inj hf).symm (by decide) w dX11_sortWord_53
      · replace hf := ite_f cd_3 hf
        by_cases cd_4 : p0 = 2
        · replace hf := ite_t cd_4 hf
          refine g_tin (tgt := 54) (k := 2) (off := 53) X cd_4 hp0 (by decide) (by decide) (by rfl) dX11_sortWord_1 (by decide) ?_
          refine g_ldcs X (i := 7) (by decide) rfl rfl dX11_sortWord_54 ?_
          exact HR 7 _ _ _ _ (Option.some.inj hf).symm (by decide) w dX11_sortWord_56
        · replace hf := ite_f cd_4 hf
          by_cases cd_5 : p0 = 3
          · replace hf := ite_t cd_5 hf
            refine g_tin (tgt := 57) (k := 3) (off := 56) X cd_5 hp0 (by decide) (by decide) (by rfl) dX11_sortWord_1 (by decide) ?_
            refine g_ldcs X (i := 8) (by decide) rfl rfl dX11_sortWord_57 ?_
            exact HR 8 _ _ _ _ (Option.some.inj hf).symm (by decide) w dX11_sortWord_59
          · replace hf := ite_f cd_5 hf
            by_cases cd_6 : p0 = 4
            · replace hf := ite_t cd_6 hf
              refine g_tin (tgt := 60) (k := 4) (off := 59) X cd_6 hp0 (by decide) (by decide) (by rfl) dX11_sortWord_1 (by decide) ?_
              refine g_ldcs X (i := 9) (by decide) rfl rfl dX11_sortWord_60 ?_
              exact HR 9 _ _ _ _ (Option.some.inj hf).symm (by decide) w dX11_sortWord_62
            · replace hf := ite_f cd_6 hf
              by_cases cd_7 : p0 = 5
              · replace hf := ite_t cd_7 hf
                refine g_tin (tgt := 63) (k := 5) (off := 62) X cd_7 hp0 (by decide) (by decide) (by rfl) dX11_sortWord_1 (by decide) ?_
                refine g_ldcs X (i := 10) (by decide) rfl rfl dX11_sortWord_63 ?_
                exact HR 10 _ _ _ _ (Option.some.inj hf).symm (by decide) w dX11_sortWord_65
              · replace hf := ite_f cd_7 hf
                by_cases cd_8 : p0 = 6
                · replace hf := ite_t cd_8 hf
                  refine g_tin (tgt := 66) (k := 6) (off := 65) X cd_8 hp0 (by decide) (by decide) (by rfl) dX11_sortWord_1 (by decide) ?_
                  refine g_ldcs X (i := 11) (by decide) rfl rfl dX11_sortWord_66 ?_
                  exact HR 11 _ _ _ _ (Option.some.inj hf).symm (by decide) w dX11_sortWord_68
                · replace hf := ite_f cd_8 hf
                  by_cases cd_9 : p0 = 7
                  · replace hf := ite_t cd_9 hf
                    refine g_tin (tgt := 69) (k := 7) (off := 68) X cd_9 hp0 (by decide) (by decide) (by rfl) dX11_sortWord_1 (by decide) ?_
                    refine g_ldcs X (i := 12) (by decide) rfl rfl dX11_sortWord_69 ?_
                    exact HR 12 _ _ _ _ (Option.some.inj hf).symm (by decide) w dX11_sortWord_71
                  · replace hf := ite_f cd_9 hf
                    cases hf
set_option maxRecDepth 100000 in
set_option maxHeartbeats 4000000 in
theorem k_X11_sortWord {l : Launch} {D : va_G} {aC : Nat → ClassId} {ad : Nat → Nat} {sg : SG} (hi : Inj ad) (p0 : Int) (hp0 : inR p0) {M : Mem} (hM : inM M) {r : Int} (hf : f_X11_sortWord p0 M = some r) : MetT l D aC ad sg yX11_sortWord cX11_sortWord 1 rm_X11_sortWord 0 0 [.int (i2 p0)] M r := by
  refine MetT.of (by decide +kernel) (nle rfl) hi hM (fun p e s m args below meth c Q H0 ls X hl w hret => ?_)
  exact b_X11_sortWord_0 X  (fun r1 H locs pc ls eo hP w dg => by cases eo; exact hret H locs pc ls hP w dg) p0 hp0 hf hl w
set_option maxRecDepth 100000 in
set_option maxHeartbeats 4000000 in
theorem b_X11_isWord_s32 (X : CX p s m args c cX11_isWord 4 RX11 D aC ad sg A H0) (p1 : Nat) (hp1 : p1 < NS) {o : (Int × Int × Mem) ⊕ (Int × Int × Mem)} (HC : ∀ (y2 : Int) (y3 : Int) (M1 : Mem) (H : Heap) (locs : List Loc) (ls : Array Slot), o = .inl (y2, y3, M1) → inR y2 → inR y3 → lv_has ls 4 [(0, .ref (ad 80)), (1, .ref (sg.1 p1)), (2, .int (i2 y2)), (3, .int (i2 y3))] → WS D aC ad A H0 M1 H locs → W p l e rm_X11_isWord s m args below meth c H locs 0 0 Q (F0 m 32 ls [])) (HE : ∀ (y2 : Int) (y3 : Int) (M1 : Mem) (H : Heap) (locs : List Loc) (ls : Array Slot), o = .inr (y2, y3, M1) → inR y2 → inR y3 → lv_has ls 4 [(0, .ref (ad 80)), (1, .ref (sg.1 p1)), (2, .int (i2 y2)), (3, .int (i2 y3))] → WS D aC ad A H0 M1 H locs → W p l e rm_X11_isWord s m args below meth c H locs 0 0 Q (F0 m 74 ls [])) (v2 : Int) (hv2 : inR v2) (v3 : Int) (hv3 : inR v3) (M : Mem) (hf : f_X11_isWord_s32 p1 v2 v3 M = some o) {H : Heap} {locs : List Loc} {ls : Array Slot} (hl : lv_has ls 4 [(0, .ref (ad 80)), (1, .ref (sg.1 p1)), (2, .int (i2 v2)), (3, .int (i2 v3))]) (w : WS D aC ad A H0 M H locs) : W p l e rm_X11_isWord s m args below meth c H locs 0 0 Q (F0 m 32 ls []) := by
  have hx := X.1.1
  have hb := X.1.2.1
  unfold f_X11_isWord_s32 at hf
  refine lv_iload_n hx hb dX11_isWord_32 rfl (lv_at hl 3 rfl) ?_
  refine lv_aload_n hx hb dX11_isWord_33 rfl (lv_at hl 1 rfl) ?_
  refine g_slen X w hp1 sw_X11_235 hl.1 ⟨nle rfl, nle rfl⟩ ⟨nle rfl, nle rfl⟩ (nle rfl) dX11_isWord_34 (fun H locs w => ?_)
  refine g_icmp_ge (tgt := 74) X hv3 (sLen_R _) dX11_isWord_37 (by decide) (fun cd => ?_) (fun cd => ?_)
  · replace hf := ite_t cd hf
    exact HE v2 v3 M _ _ _ (Option.some.inj hf).symm hv2 hv3 hl w
  · replace hf := ite_f cd hf
    refine lv_iload_n hx hb dX11_isWord_40 rfl (lv_at hl 2 rfl) ?_
    refine g_if_eq (tgt := 74) X hv2 dX11_isWord_41 (by decide) (fun cd_2 => ?_) (fun cd_2 => ?_)
    · replace hf := ite_t cd_2 hf
      exact HE v2 v3 M _ _ _ (Option.some.inj hf).symm hv2 hv3 hl w
    · replace hf := ite_f cd_2 hf
      refine lv_aload_n hx hb dX11_isWord_44 rfl (lv_at hl 0 rfl) ?_
      refine lv_aload_n hx hb dX11_isWord_45 rfl (lv_at hl 0 rfl) ?_
      refine g_geti X w fg_X11_216 KD_80 FR_80_35 dX11_isWord_46 ?_
      refine lv_iload_n hx hb dX11_isWord_49 rfl (lv_at hl 3 rfl) ?_
      refine g_iadd X dX11_isWord_50 ?_
      obtain ⟨r, hc, hf⟩ := obn_some hf
      refine g_cvi (As := [.int (i2 (wrap ((M 80 35) + v3)))]) (rest := []) X w (k_X11_byteAt X.2.2.1 (wrap ((M 80 35) + v3)) (inR_wrap _) w.2.2 hc) lk_X11_219 cl_11 KD_80 ⟨rfl, rfl⟩ ⟨nle rfl, nle rfl⟩ ⟨nle rfl, nle rfl⟩ hl.1 rfl (nle rfl) dX11_isWord_51 (fun hr H locs w => ?_)
      refine lv_aload_n hx hb dX11_isWord_54 rfl (lv_at hl 1 rfl) ?_
      refine lv_iload_n hx hb dX11_isWord_55 rfl (lv_at hl 3 rfl) ?_
      obtain ⟨hg, hf⟩ := gd_some hf
      refine g_schar X w hp1 hv3 hg sw_X11_241 hl.1 ⟨nle rfl, nle rfl⟩ ⟨nle rfl, nle rfl⟩ (nle rfl) dX11_isWord_56 (fun H locs w => ?_)
      refine g_icmp_ne (tgt := 66) X hr (sAt_R _ _) dX11_isWord_59 (by decide) (fun cd_3 => ?_) (fun cd_3 => ?_)
      · replace hf := ite_f cd_3 hf
        refine g_iconst X dX11_isWord_66 ?_
        refine g_istn (v := 0) (lv' := [(2, .int (i2 0)), (0, .ref (ad 80)), (1, .ref (sg.1 p1)), (3, .int (i2 v3))]) X rfl dX11_isWord_67 rfl hl (by decide) rfl (fun ls hl => ?_)
        obtain ⟨v3_2, ev3_2, hf⟩ := lt_some hf
        have hv3_2 : inR v3_2 := inR_of ev3_2 (inR_wrap _)
        refine lv_iinc (v := i2 v3_2) (lv' := [(3, .int (i2 v3_2)), (2, .int (i2 0)), (0, .ref (ad 80)), (1, .ref (sg.1 p1))]) hx hb dX11_isWord_68 hl (k := 3) rfl (by rw [ev3_2]; exact i2_add _ _) (by decide) rfl (fun ls hl => ?_)
        refine lv_goto (tgt := 32) hx hb dX11_isWord_71 (by decide) ?_
        exact HC 0 v3_2 M _ _ _ (Option.some.inj hf).symm (inL rfl) hv3_2 (lv_sub hl [2, 3, 1, 0] rfl) w
      · replace hf := ite_t cd_3 hf
        refine g_iconst X dX11_isWord_62 ?_
        refine lv_goto (tgt := 67) hx hb dX11_isWord_63 (by decide) ?_
        refine g_istn (v := 1) (lv' := [(2, .int (i2 1)), (0, .ref (ad 80)), (1, .ref (sg.1 p1)), (3, .int (i2 v3))]) X rfl dX11_isWord_67 rfl hl (by decide) rfl (fun ls hl => ?_)
        obtain ⟨v3_3, ev3_3, hf⟩ := lt_some hf
        have hv3_3 : inR v3_3 := inR_of ev3_3 (inR_wrap _)
        refine lv_iinc (v := i2 v3_3) (lv' := [(3, .int (i2 v3_3)), (2, .int (i2 1)), (0, .ref (ad 80)), (1, .ref (sg.1 p1))]) hx hb dX11_isWord_68 hl (k := 3) rfl (by rw [ev3_3]; exact i2_add _ _) (by decide) rfl (fun ls hl => ?_)
        refine lv_goto (tgt := 32) hx hb dX11_isWord_71 (by decide) ?_
        exact HC 1 v3_3 M _ _ _ (Option.some.inj hf).symm (inL rfl) hv3_3 (lv_sub hl [2, 3, 1, 0] rfl) w
set_option maxRecDepth 100000 in
set_option maxHeartbeats 4000000 in
theorem l_X11_isWord_32 (X : CX p s m args c cX11_isWord 4 RX11 D aC ad sg A H0) (p1 : Nat) (hp1 : p1 < NS) {out : Int × Int × Mem} (HE : ∀ (y2 : Int) (y3 : Int) (M1 : Mem) (H : Heap) (locs : List Loc) (ls : Array Slot), out = (y2, y3, M1) → inR y2 → inR y3 → lv_has ls 4 [(0, .ref (ad 80)), (1, .ref (sg.1 p1)), (2, .int (i2 y2)), (3, .int (i2 y3))] → WS D aC ad A H0 M1 H locs → W p l e rm_X11_isWord s m args below meth c H locs 0 0 Q (F0 m 74 ls [])) : ∀ (n : Nat) (v2 : Int) (v3 : Int) (M : Mem), whl (fun s => f_X11_isWord_s32 p1 s.1 s.2.1 s.2.2) n (v2, v3, M) = some out → inR v2 → inR v3 → ∀ {H : Heap} {locs : List Loc} {ls : Array Slot}, lv_has ls 4 [(0, .ref (ad 80)), (1, .ref (sg.1 p1)), (2, .int (i2 v2)), (3, .int (i2 v3))] → WS D aC ad A H0 M H locs → W p l e rm_X11_isWord s m args below meth c H locs 0 0 Q (F0 m 32 ls []) := by
  intro n
  induction n with
  | zero => intro v2 v3 M hf; exact (whl_zero hf).elim
  | succ n ih =>
    intro v2 v3 M hf hv2 hv3 H locs ls hl w
    obtain ⟨o, hf, hk1, hk2⟩ := whl_step hf
    exact b_X11_isWord_s32 X p1 hp1 (fun y2 y3 M1 H locs ls eo hy2 hy3 hl w => ih y2 y3 M1 (hk1 _ eo) hy2 hy3 hl w) (fun y2 y3 M1 H locs ls eo hy2 hy3 hl w => HE y2 y3 M1 H locs ls (hk2 _ eo).symm hy2 hy3 hl w) v2 hv2 v3 hv3 M hf hl w
set_option maxRecDepth 100000 in
set_option maxHeartbeats 4000000 in
theorem b_X11_isWord_j74 (X : CX p s m args c cX11_isWord 4 RX11 D aC ad sg A H0) (p1 : Nat) (hp1 : p1 < NS) {o : Int × Mem} (HR : ∀ (r : Int) (M1 : Mem) (H : Heap) (locs : List Loc) (pc : Nat) (ls : Array Slot), o = (r, M1) → isZ r → WS D aC ad A H0 M1 H locs → decode cX11_isWord pc = .ok (.ireturn, 1) → W p l e rm_X11_isWord s m args below meth c H locs 0 0 Q (F0 m pc ls [.int (i2 r)])) (v2 : Int) (hv2 : inR v2) (M : Mem) (hf : f_X11_isWord_j74 p1 v2 M = some o) {H : Heap} {locs : List Loc} {ls : Array Slot} (hl : lv_has ls 4 [(2, .int (i2 v2))]) (w : WS D aC ad A H0 M H locs) : W p l e rm_X11_isWord s m args below meth c H locs 0 0 Q (F0 m 74 ls []) := by
  have hx := X.1.1
  have hb := X.1.2.1
  unfold f_X11_isWord_j74 at hf
  refine lv_iload_n hx hb dX11_isWord_74 rfl (lv_at hl 0 rfl) ?_
  obtain ⟨hz, hf⟩ := gd_some hf
  exact HR v2 M _ _ _ _ (Option.some.inj hf).symm hz w dX11_isWord_75
set_option maxRecDepth 100000 in
set_option maxHeartbeats 4000000 in
theorem b_X11_isWord_j29 (X : CX p s m args c cX11_isWord 4 RX11 D aC ad sg A H0) (p1 : Nat) (hp1 : p1 < NS) {o : Int × Mem} (HR : ∀ (r : Int) (M1 : Mem) (H : Heap) (locs : List Loc) (pc : Nat) (ls : Array Slot), o = (r, M1) → isZ r → WS D aC ad A H0 M1 H locs → decode cX11_isWord pc = .ok (.ireturn, 1) → W p l e rm_X11_isWord s m args below meth c H locs 0 0 Q (F0 m pc ls [.int (i2 r)])) (s0 : Int) (hs0 : inR s0) (M : Mem) (hf : f_X11_isWord_j29 p1 s0 M = some o) {H : Heap} {locs : List Loc} {ls : Array Slot} (hl : lv_has ls 4 [(0, .ref (ad 80)), (1, .ref (sg.1 p1))]) (w : WS D aC ad A H0 M H locs) : W p l e rm_X11_isWord s m args below meth c H locs 0 0 Q (F0 m 29 ls [.int (i2 s0)]) := by
  have hx := X.1.1
  have hb := X.1.2.1
  unfold f_X11_isWord_j29 at hf
  refine g_istn (v := s0) (lv' := [(2, .int (i2 s0)), (0, .ref (ad 80)), (1, .ref (sg.1 p1))]) X rfl dX11_isWord_29 rfl hl (by decide) rfl (fun ls hl => ?_)
  refine g_iconst X dX11_isWord_30 ?_
  refine g_istn (v := 0) (lv' := [(3, .int (i2 0)), (2, .int (i2 s0)), (0, .ref (ad 80)), (1, .ref (sg.1 p1))]) X rfl dX11_isWord_31 rfl hl (by decide) rfl (fun ls hl => ?_)
  obtain ⟨q, hq, h1⟩ := obn_some hf
  exact l_X11_isWord_32 X p1 hp1 (out := q) (fun y2 y3 M1 H locs ls eq hy2 hy3 hl w => b_X11_isWord_j74 X p1 hp1 HR y2 hy2 M1 (by subst eq; exact h1) (lv_sub hl [2] rfl) w)  FU s0 0 M hq hs0 (inL rfl) (lv_sub hl [2, 3, 1, 0] rfl) w
set_option maxRecDepth 100000 in
set_option maxHeartbeats 4000000 in
theorem b_X11_isWord_0 (X : CX p s m args c cX11_isWord 4 RX11 D aC ad sg A H0) (p1 : Nat) (hp1 : p1 < NS) {o : Int × Mem} (HR : ∀ (r : Int) (M1 : Mem) (H : Heap) (locs : List Loc) (pc : Nat) (ls : Array Slot), o = (r, M1) → isZ r → WS D aC ad A H0 M1 H locs → decode cX11_isWord pc = .ok (.ireturn, 1) → W p l e rm_X11_isWord s m args below meth c H locs 0 0 Q (F0 m pc ls [.int (i2 r)])) (M : Mem) (hf : f_X11_isWord p1 M = some o) {H : Heap} {locs : List Loc} {ls : Array Slot} (hl : lv_has ls 4 [(0, .ref (ad 80)), (1, .ref (sg.1 p1))]) (w : WS D aC ad A H0 M H locs) : W p l e rm_X11_isWord s m args below meth c H locs 0 0 Q (F0 m 0 ls []) := by
  have hx := X.1.1
  have hb := X.1.2.1
  unfold f_X11_isWord at hf
  refine lv_aload_n hx hb dX11_isWord_0 rfl (lv_at hl 0 rfl) ?_
  refine g_geti X w fg_X11_223 KD_80 FR_80_38 dX11_isWord_1 ?_
  refine g_iconst X dX11_isWord_4 ?_
  refine g_icmp_ne (tgt := 28) X (w.2.2 _ _) (inL rfl) dX11_isWord_5 (by decide) (fun cd => ?_) (fun cd => ?_)
  · replace hf := ite_f cd hf
    refine g_iconst X dX11_isWord_28 ?_
    exact b_X11_isWord_j29 X p1 hp1 HR 0 (inL rfl) M hf hl w
  · replace hf := ite_t cd hf
    refine lv_aload_n hx hb dX11_isWord_8 rfl (lv_at hl 0 rfl) ?_
    refine g_geti X w fg_X11_213 KD_80 FR_80_36 dX11_isWord_9 ?_
    refine lv_aload_n hx hb dX11_isWord_12 rfl (lv_at hl 0 rfl) ?_
    refine g_geti X w fg_X11_216 KD_80 FR_80_35 dX11_isWord_13 ?_
    refine g_isub X dX11_isWord_16 ?_
    refine lv_aload_n hx hb dX11_isWord_17 rfl (lv_at hl 1 rfl) ?_
    refine g_slen X w hp1 sw_X11_235 hl.1 ⟨nle rfl, nle rfl⟩ ⟨nle rfl, nle rfl⟩ (nle rfl) dX11_isWord_18 (fun H locs w => ?_)
    refine g_icmp_ne (tgt := 28) X (inR_wrap _) (sLen_R _) dX11_isWord_21 (by decide) (fun cd_2 => ?_) (fun cd_2 => ?_)
    · replace hf := ite_f cd_2 hf
      refine g_iconst X dX11_isWord_28 ?_
      exact b_X11_isWord_j29 X p1 hp1 HR 0 (inL rfl) M hf hl w
    · replace hf := ite_t cd_2 hf
      refine g_iconst X dX11_isWord_24 ?_
      refine lv_goto (tgt := 29) hx hb dX11_isWord_25 (by decide) ?_
      exact b_X11_isWord_j29 X p1 hp1 HR 1 (inL rfl) M hf hl w
set_option maxRecDepth 100000 in
set_option maxHeartbeats 4000000 in
theorem k_X11_isWord {l : Launch} {D : va_G} {aC : Nat → ClassId} {ad : Nat → Nat} {sg : SG} (hi : Inj ad) (p1 : Nat) (hp1 : p1 < NS) {M : Mem} (hM : inM M) {r : Int} {M' : Mem} (hf : f_X11_isWord p1 M = some (r, M')) : MetI l D aC ad sg yX11_isWord cX11_isWord 4 (some .boolean) rm_X11_isWord 0 0 [.ref (ad 80), .ref (sg.1 p1)] M r M' := by
  refine MetI.ofZ (by decide +kernel) (nle rfl) hi hM (fun p e s m args below meth c Q H0 ls X hl w hret => ?_)
  exact b_X11_isWord_0 X p1 hp1 (fun r1 M1 H locs pc ls eo hP w dg => by cases eo; exact hret H locs pc ls hP w dg) M hf hl w
set_option maxRecDepth 100000 in
set_option maxHeartbeats 4000000 in
theorem b_X11_sortHere_s2 (X : CX p s m args c cX11_sortHere 2 RX11 D aC ad sg A H0) {o : (Int × Mem) ⊕ ((Int × Mem) ⊕ (Int × Mem))} (HC : ∀ (y1 : Int) (M1 : Mem) (H : Heap) (locs : List Loc) (ls : Array Slot), o = .inl (y1, M1) → inR y1 → lv_has ls 2 [(0, .ref (ad 80)), (1, .int (i2 y1))] → WS D aC ad A H0 M1 H locs → W p l e rm_X11_sortHere s m args below meth c H locs 0 0 Q (F0 m 2 ls [])) (HE : ∀ (y1 : Int) (M1 : Mem) (H : Heap) (locs : List Loc) (ls : Array Slot), o = .inr (.inl (y1, M1)) → inR y1 → lv_has ls 2 [(0, .ref (ad 80)), (1, .int (i2 y1))] → WS D aC ad A H0 M1 H locs → W p l e rm_X11_sortHere s m args below meth c H locs 0 0 Q (F0 m 27 ls [])) (HR : ∀ (r : Int) (M1 : Mem) (H : Heap) (locs : List Loc) (pc : Nat) (ls : Array Slot), o = .inr (.inr (r, M1)) → inR r → WS D aC ad A H0 M1 H locs → decode cX11_sortHere pc = .ok (.ireturn, 1) → W p l e rm_X11_sortHere s m args below meth c H locs 0 0 Q (F0 m pc ls [.int (i2 r)])) (v1 : Int) (hv1 : inR v1) (M : Mem) (hf : f_X11_sortHere_s2 v1 M = some o) {H : Heap} {locs : List Loc} {ls : Array Slot} (hl : lv_has ls 2 [(0, .ref (ad 80)), (1, .int (i2 v1))]) (w : WS D aC ad A H0 M H locs) : W p l e rm_X11_sortHere s m args below meth c H locs 0 0 Q (F0 m 2 ls []) := by
  have hx := X.1.1
  have hb := X.1.2.1
  unfold f_X11_sortHere_s2 at hf
  refine lv_iload_n hx hb dX11_sortHere_2 rfl (lv_at hl 1 rfl) ?_
  refine g_bipush X dX11_sortHere_3 (by decide) ?_
  refine g_icmp_ge (tgt := 27) X hv1 (inL rfl) dX11_sortHere_5 (by decide) (fun cd => ?_) (fun cd => ?_)
  · replace hf := ite_t cd hf
    exact HE v1 M _ _ _ (Option.some.inj hf).symm hv1 hl w
  · replace hf := ite_f cd hf
    refine lv_aload_n hx hb dX11_sortHere_8 rfl (lv_at hl 0 rfl) ?_
    refine lv_iload_n hx hb dX11_sortHere_9 rfl (lv_at hl 1 rfl) ?_
    obtain ⟨r, hc, hf⟩ := obn_some hf
    refine g_cst (As := [.int (i2 v1)]) (rest := [.ref (ad 80)]) X w (k_X11_sortWord X.2.2.1 v1 hv1 w.2.2 hc) lk_X11_256 ⟨rfl, rfl⟩ ⟨nle rfl, nle rfl⟩ ⟨nle rfl, nle rfl⟩ hl.1 rfl (nle rfl) dX11_sortHere_10 (fun hr H locs w => ?_)
    obtain ⟨r_2, M_2, hc, hf⟩ := bnd_some hf
    refine g_cvi (As := [.ref (sg.1 r.toNat)]) (rest := []) X w (k_X11_isWord X.2.2.1 r.toNat (str_lt hr) w.2.2 hc) lk_X11_252 cl_11 KD_80 ⟨rfl, rfl⟩ ⟨nle rfl, nle rfl⟩ ⟨nle rfl, nle rfl⟩ hl.1 rfl (nle rfl) dX11_sortHere_13 (fun hr_2 H locs w_M_2 => ?_)
    refine g_if_eq (tgt := 21) X hr_2 dX11_sortHere_16 (by decide) (fun cd_2 => ?_) (fun cd_2 => ?_)
    · replace hf := ite_t cd_2 hf
      obtain ⟨v1_2, ev1_2, hf⟩ := lt_some hf
      have hv1_2 : inR v1_2 := inR_of ev1_2 (inR_wrap _)
      refine lv_iinc (v := i2 v1_2) (lv' := [(1, .int (i2 v1_2)), (0, .ref (ad 80))]) hx hb dX11_sortHere_21 hl (k := 1) rfl (by rw [ev1_2]; exact i2_add _ _) (by decide) rfl (fun ls hl => ?_)
      refine lv_goto (tgt := 2) hx hb dX11_sortHere_24 (by decide) ?_
      exact HC v1_2 M_2 _ _ _ (Option.some.inj hf).symm hv1_2 (lv_sub hl [1, 0] rfl) w_M_2
    · replace hf := ite_f cd_2 hf
      refine lv_iload_n hx hb dX11_sortHere_19 rfl (lv_at hl 1 rfl) ?_
      exact HR v1 M_2 _ _ _ _ (Option.some.inj hf).symm hv1 w_M_2 dX11_sortHere_20
set_option maxRecDepth 100000 in
set_option maxHeartbeats 4000000 in
theorem l_X11_sortHere_2 (X : CX p s m args c cX11_sortHere 2 RX11 D aC ad sg A H0) {out : (Int × Mem) ⊕ (Int × Mem)} (HE : ∀ (y1 : Int) (M1 : Mem) (H : Heap) (locs : List Loc) (ls : Array Slot), out = .inl (y1, M1) → inR y1 → lv_has ls 2 [(0, .ref (ad 80)), (1, .int (i2 y1))] → WS D aC ad A H0 M1 H locs → W p l e rm_X11_sortHere s m args below meth c H locs 0 0 Q (F0 m 27 ls [])) (HR : ∀ (r : Int) (M1 : Mem) (H : Heap) (locs : List Loc) (pc : Nat) (ls : Array Slot), out = .inr (r, M1) → inR r → WS D aC ad A H0 M1 H locs → decode cX11_sortHere pc = .ok (.ireturn, 1) → W p l e rm_X11_sortHere s m args below meth c H locs 0 0 Q (F0 m pc ls [.int (i2 r)])) : ∀ (n : Nat) (v1 : Int) (M : Mem), whl (fun s => f_X11_sortHere_s2 s.1 s.2) n (v1, M) = some out → inR v1 → ∀ {H : Heap} {locs : List Loc} {ls : Array Slot}, lv_has ls 2 [(0, .ref (ad 80)), (1, .int (i2 v1))] → WS D aC ad A H0 M H locs → W p l e rm_X11_sortHere s m args below meth c H locs 0 0 Q (F0 m 2 ls []) := by
  intro n
  induction n with
  | zero => intro v1 M hf; exact (whl_zero hf).elim
  | succ n ih =>
    intro v1 M hf hv1 H locs ls hl w
    obtain ⟨o, hf, hk1, hk2⟩ := whl_step hf
    exact b_X11_sortHere_s2 X  (fun y1 M1 H locs ls eo hy1 hl w => ih y1 M1 (hk1 _ eo) hy1 hl w) (fun y1 M1 H locs ls eo hy1 hl w => HE y1 M1 H locs ls (hk2 _ eo).symm hy1 hl w) (fun r M1 H locs pc ls eo hP w dg => HR r M1 H locs pc ls (hk2 _ eo).symm hP w dg) v1 hv1 M hf hl w
set_option maxRecDepth 100000 in
set_option maxHeartbeats 4000000 in
theorem b_X11_sortHere_j27 (X : CX p s m args c cX11_sortHere 2 RX11 D aC ad sg A H0) {o : Int × Mem} (HR : ∀ (r : Int) (M1 : Mem) (H : Heap) (locs : List Loc) (pc : Nat) (ls : Array Slot), o = (r, M1) → inR r → WS D aC ad A H0 M1 H locs → decode cX11_sortHere pc = .ok (.ireturn, 1) → W p l e rm_X11_sortHere s m args below meth c H locs 0 0 Q (F0 m pc ls [.int (i2 r)])) (M : Mem) (hf : f_X11_sortHere_j27 M = some o) {H : Heap} {locs : List Loc} {ls : Array Slot} (hl : lv_has ls 2 []) (w : WS D aC ad A H0 M H locs) : W p l e rm_X11_sortHere s m args below meth c H locs 0 0 Q (F0 m 27 ls []) := by
  have hx := X.1.1
  have hb := X.1.2.1
  unfold f_X11_sortHere_j27 at hf
  refine g_iconst X dX11_sortHere_27 ?_
  exact HR (-1) M _ _ _ _ (Option.some.inj hf).symm (inL rfl) w dX11_sortHere_28
set_option maxRecDepth 100000 in
set_option maxHeartbeats 4000000 in
theorem b_X11_sortHere_0 (X : CX p s m args c cX11_sortHere 2 RX11 D aC ad sg A H0) {o : Int × Mem} (HR : ∀ (r : Int) (M1 : Mem) (H : Heap) (locs : List Loc) (pc : Nat) (ls : Array Slot), o = (r, M1) → inR r → WS D aC ad A H0 M1 H locs → decode cX11_sortHere pc = .ok (.ireturn, 1) → W p l e rm_X11_sortHere s m args below meth c H locs 0 0 Q (F0 m pc ls [.int (i2 r)])) (M : Mem) (hf : f_X11_sortHere M = some o) {H : Heap} {locs : List Loc} {ls : Array Slot} (hl : lv_has ls 2 [(0, .ref (ad 80))]) (w : WS D aC ad A H0 M H locs) : W p l e rm_X11_sortHere s m args below meth c H locs 0 0 Q (F0 m 0 ls []) := by
  have hx := X.1.1
  have hb := X.1.2.1
  unfold f_X11_sortHere at hf
  refine g_iconst X dX11_sortHere_0 ?_
  refine g_istn (v := 0) (lv' := [(1, .int (i2 0)), (0, .ref (ad 80))]) X rfl dX11_sortHere_1 rfl hl (by decide) rfl (fun ls hl => ?_)
  obtain ⟨q, hq, h1, h2⟩ := lpr_some hf
  exact l_X11_sortHere_2 X  (out := q) (fun y1 M1 H locs ls eq hy1 hl w => b_X11_sortHere_j27 X  HR M1 (h1 _ eq) (lv_sub hl [] rfl) w) (fun r M1 H locs pc ls eq hP w dg => HR r M1 H locs pc ls (Option.some.inj (h2 _ eq)).symm hP w dg) FU 0 M hq (inL rfl) (lv_sub hl [1, 0] rfl) w
set_option maxRecDepth 100000 in
set_option maxHeartbeats 4000000 in
theorem k_X11_sortHere {l : Launch} {D : va_G} {aC : Nat → ClassId} {ad : Nat → Nat} {sg : SG} (hi : Inj ad)  {M : Mem} (hM : inM M) {r : Int} {M' : Mem} (hf : f_X11_sortHere M = some (r, M')) : MetI l D aC ad sg yX11_sortHere cX11_sortHere 2 (some .int) rm_X11_sortHere 0 0 [.ref (ad 80)] M r M' := by
  refine MetI.ofI (by decide +kernel) (nle rfl) hi hM (fun p e s m args below meth c Q H0 ls X hl w hret => ?_)
  exact b_X11_sortHere_0 X  (fun r1 M1 H locs pc ls eo hP w dg => by cases eo; exact hret H locs pc ls hP w dg) M hf hl w
set_option maxRecDepth 100000 in
set_option maxHeartbeats 4000000 in
theorem b_X11_wrong_0 (X : CX p s m args c cX11_wrong 2 RX11 D aC ad sg A H0) {o : Int × Mem} (HR : ∀ (r : Int) (M1 : Mem) (H : Heap) (locs : List Loc) (pc : Nat) (ls : Array Slot), o = (r, M1) → isZ r → WS D aC ad A H0 M1 H locs → decode cX11_wrong pc = .ok (.ireturn, 1) → W p l e rm_X11_wrong s m args below meth c H locs 0 0 Q (F0 m pc ls [.int (i2 r)])) (p1 : Int) (hp1 : inR p1) (M : Mem) (hf : f_X11_wrong p1 M = some o) {H : Heap} {locs : List Loc} {ls : Array Slot} (hl : lv_has ls 2 [(0, .ref (ad 80)), (1, .int (i2 p1))]) (w : WS D aC ad A H0 M H locs) : W p l e rm_X11_wrong s m args below meth c H locs 0 0 Q (F0 m 0 ls []) := by
  have hx := X.1.1
  have hb := X.1.2.1
  unfold f_X11_wrong at hf
  refine lv_aload_n hx hb dX11_wrong_0 rfl (lv_at hl 0 rfl) ?_
  refine g_geti X w fg_X11_245 KD_80 FR_80_33 dX11_wrong_1 ?_
  refine g_if_ne (tgt := 20) X (w.2.2 _ _) dX11_wrong_4 (by decide) (fun cd => ?_) (fun cd => ?_)
  · replace hf := ite_f cd hf
    refine g_iconst X dX11_wrong_20 ?_
    exact HR 0 M _ _ _ _ (Option.some.inj hf).symm (Or.inl rfl) w dX11_wrong_21
  · replace hf := ite_t cd hf
    refine lv_aload_n hx hb dX11_wrong_7 rfl (lv_at hl 0 rfl) ?_
    refine lv_iload_n hx hb dX11_wrong_8 rfl (lv_at hl 1 rfl) ?_
    obtain ⟨M_2, eM_2, hf⟩ := lt_some hf
    refine g_puti X w fp_X11_245 KD_80 FR_80_33 hp1 dX11_wrong_9 (fun H locs w_M_2 => ?_)
    rw [← eM_2] at w_M_2
    refine lv_aload_n hx hb dX11_wrong_12 rfl (lv_at hl 0 rfl) ?_
    refine lv_aload_n hx hb dX11_wrong_13 rfl (lv_at hl 0 rfl) ?_
    refine g_geti X w_M_2 fg_X11_216 KD_80 FR_80_35 dX11_wrong_14 ?_
    obtain ⟨M_3, eM_3, hf⟩ := lt_some hf
    refine g_puti X w_M_2 fp_X11_91 KD_80 FR_80_34 (w_M_2.2.2 _ _) dX11_wrong_17 (fun H locs w_M_3 => ?_)
    rw [← eM_3] at w_M_3
    refine g_iconst X dX11_wrong_20 ?_
    exact HR 0 M_3 _ _ _ _ (Option.some.inj hf).symm (Or.inl rfl) w_M_3 dX11_wrong_21
set_option maxRecDepth 100000 in
set_option maxHeartbeats 4000000 in
theorem k_X11_wrong {l : Launch} {D : va_G} {aC : Nat → ClassId} {ad : Nat → Nat} {sg : SG} (hi : Inj ad) (p1 : Int) (hp1 : inR p1) {M : Mem} (hM : inM M) {r : Int} {M' : Mem} (hf : f_X11_wrong p1 M = some (r, M')) : MetI l D aC ad sg yX11_wrong cX11_wrong 2 (some .boolean) rm_X11_wrong 0 0 [.ref (ad 80), .int (i2 p1)] M r M' := by
  refine MetI.ofZ (by decide +kernel) (nle rfl) hi hM (fun p e s m args below meth c Q H0 ls X hl w hret => ?_)
  exact b_X11_wrong_0 X  (fun r1 M1 H locs pc ls eo hP w dg => by cases eo; exact hret H locs pc ls hP w dg) p1 hp1 M hf hl w
set_option maxRecDepth 100000 in
set_option maxHeartbeats 4000000 in
theorem b_X11_isSign_0 (X : CX p s m args c cX11_isSign 2 RX11 D aC ad sg A H0) {M : Mem} {o : Int} (HR : ∀ (r : Int) (H : Heap) (locs : List Loc) (pc : Nat) (ls : Array Slot), o = r → isZ r → WS D aC ad A H0 M H locs → decode cX11_isSign pc = .ok (.ireturn, 1) → W p l e rm_X11_isSign s m args below meth c H locs 0 0 Q (F0 m pc ls [.int (i2 r)])) (p1 : Int) (hp1 : inR p1) (hf : f_X11_isSign p1 M = some o) {H : Heap} {locs : List Loc} {ls : Array Slot} (hl : lv_has ls 2 [(0, .ref (ad 80)), (1, .int (i2 p1))]) (w : WS D aC ad A H0 M H locs) : W p l e rm_X11_isSign s m args below meth c H locs 0 0 Q (F0 m 0 ls []) := by
  have hx := X.1.1
  have hb := X.1.2.1
  unfold f_X11_isSign at hf
  refine lv_aload_n hx hb dX11_isSign_0 rfl (lv_at hl 0 rfl) ?_
  refine g_geti X w fg_X11_223 KD_80 FR_80_38 dX11_isSign_1 ?_
  refine g_iconst X dX11_isSign_4 ?_
  refine g_icmp_ne (tgt := 24) X (w.2.2 _ _) (inL rfl) dX11_isSign_5 (by decide) (fun cd => ?_) (fun cd => ?_)
  · replace hf := ite_f cd hf
    refine g_iconst X dX11_isSign_24 ?_
    exact HR 0 _ _ _ _ (Option.some.inj hf).symm (Or.inl rfl) w dX11_isSign_25
  · replace hf := ite_t cd hf
    refine lv_aload_n hx hb dX11_isSign_8 rfl (lv_at hl 0 rfl) ?_
    refine lv_aload_n hx hb dX11_isSign_9 rfl (lv_at hl 0 rfl) ?_
    refine g_geti X w fg_X11_216 KD_80 FR_80_35 dX11_isSign_10 ?_
    obtain ⟨r, hc, hf⟩ := obn_some hf
    refine g_cvi (As := [.int (i2 (M 80 35))]) (rest := []) X w (k_X11_byteAt X.2.2.1 (M 80 35) (w.2.2 _ _) w.2.2 hc) lk_X11_219 cl_11 KD_80 ⟨rfl, rfl⟩ ⟨nle rfl, nle rfl⟩ ⟨nle rfl, nle rfl⟩ hl.1 rfl (nle rfl) dX11_isSign_13 (fun hr H locs w => ?_)
    refine lv_iload_n hx hb dX11_isSign_16 rfl (lv_at hl 1 rfl) ?_
    refine g_icmp_ne (tgt := 24) X hr hp1 dX11_isSign_17 (by decide) (fun cd_2 => ?_) (fun cd_2 => ?_)
    · replace hf := ite_f cd_2 hf
      refine g_iconst X dX11_isSign_24 ?_
      exact HR 0 _ _ _ _ (Option.some.inj hf).symm (Or.inl rfl) w dX11_isSign_25
    · replace hf := ite_t cd_2 hf
      refine g_iconst X dX11_isSign_20 ?_
      refine lv_goto (tgt := 25) hx hb dX11_isSign_21 (by decide) ?_
      exact HR 1 _ _ _ _ (Option.some.inj hf).symm (Or.inr rfl) w dX11_isSign_25
set_option maxRecDepth 100000 in
set_option maxHeartbeats 4000000 in
theorem k_X11_isSign {l : Launch} {D : va_G} {aC : Nat → ClassId} {ad : Nat → Nat} {sg : SG} (hi : Inj ad) (p1 : Int) (hp1 : inR p1) {M : Mem} (hM : inM M) {r : Int} (hf : f_X11_isSign p1 M = some r) : MetI l D aC ad sg yX11_isSign cX11_isSign 2 (some .boolean) rm_X11_isSign 0 0 [.ref (ad 80), .int (i2 p1)] M r M := by
  refine MetI.ofZ (by decide +kernel) (nle rfl) hi hM (fun p e s m args below meth c Q H0 ls X hl w hret => ?_)
  exact b_X11_isSign_0 X  (fun r1 H locs pc ls eo hP w dg => by cases eo; exact hret H locs pc ls hP w dg) p1 hp1 hf hl w
set_option maxRecDepth 100000 in
set_option maxHeartbeats 4000000 in
theorem b_X11_factWord_0 (X : CX p s m args c cX11_factWord 1 RX11 D aC ad sg A H0) {M : Mem} {o : Int} (HR : ∀ (r : Int) (H : Heap) (locs : List Loc) (pc : Nat) (ls : Array Slot), o = r → (0 ≤ r ∧ r < 27) → WS D aC ad A H0 M H locs → decode cX11_factWord pc = .ok (.areturn, 1) → W p l e rm_X11_factWord s m args below meth c H locs 0 0 Q (F0 m pc ls [.ref (sg.1 r.toNat)])) (p0 : Int) (hp0 : inR p0) (hf : f_X11_factWord p0 M = some o) {H : Heap} {locs : List Loc} {ls : Array Slot} (hl : lv_has ls 1 [(0, .int (i2 p0))]) (w : WS D aC ad A H0 M H locs) : W p l e rm_X11_factWord s m args below meth c H locs 0 0 Q (F0 m 0 ls []) := by
  have hx := X.1.1
  have hb := X.1.2.1
  unfold f_X11_factWord at hf
  refine lv_iload_n hx hb dX11_factWord_0 rfl (lv_at hl 0 rfl) ?_
  by_cases cd : p0 < 0 ∨ 5 < p0
  · replace hf := ite_t cd hf
    refine g_tout (tgt := 58) X hp0 cd dX11_factWord_1 (by decide) ?_
    refine g_ldcs X (i := 22) (by decide) rfl rfl dX11_factWord_58 ?_
    exact HR 22 _ _ _ _ (Option.some.inj hf).symm (by decide) w dX11_factWord_60
  · replace hf := ite_f cd hf
    by_cases cd_2 : p0 = 0
    · replace hf := ite_t cd_2 hf
      refine g_tin (tgt := 40) (k := 0) (off := 39) X cd_2 hp0 (by decide) (by decide) (by rfl) dX11_factWord_1 (by decide) ?_
      refine g_ldcs X (i := 16) (by decide) rfl rfl dX11_factWord_40 ?_
      exact HR 16 _ _ _ _ (Option.some.inj hf).symm (by decide) w dX11_factWord_42
    · replace hf := ite_f cd_2 hf
      by_cases cd_3 : p0 = 1
      · replace hf := ite_t cd_3 hf
        refine g_tin (tgt := 43) (k := 1) (off := 42) X cd_3 hp0 (by decide) (by decide) (by rfl) dX11_factWord_1 (by decide) ?_
        refine g_ldcs X (i := 17) (by decide) rfl rfl dX11_factWord_43 ?_
        exact HR 17 _ _ _ _ (Option.some.inj hf).symm (by decide) w dX11_factWord_45
      · replace hf := ite_f cd_3 hf
        by_cases cd_4 : p0 = 2
        · replace hf := ite_t cd_4 hf
          refine g_tin (tgt := 46) (k := 2) (off := 45) X cd_4 hp0 (by decide) (by decide) (by rfl) dX11_factWord_1 (by decide) ?_
          refine g_ldcs X (i := 18) (by decide) rfl rfl dX11_factWord_46 ?_
          exact HR 18 _ _ _ _ (Option.some.inj hf).symm (by decide) w dX11_factWord_48
        · replace hf := ite_f cd_4 hf
          by_cases cd_5 : p0 = 3
          · replace hf := ite_t cd_5 hf
            refine g_tin (tgt := 49) (k := 3) (off := 48) X cd_5 hp0 (by decide) (by decide) (by rfl) dX11_factWord_1 (by decide) ?_
            refine g_ldcs X (i := 19) (by decide) rfl rfl dX11_factWord_49 ?_
            exact HR 19 _ _ _ _ (Option.some.inj hf).symm (by decide) w dX11_factWord_51
          · replace hf := ite_f cd_5 hf
            by_cases cd_6 : p0 = 4
            · replace hf := ite_t cd_6 hf
              refine g_tin (tgt := 52) (k := 4) (off := 51) X cd_6 hp0 (by decide) (by decide) (by rfl) dX11_factWord_1 (by decide) ?_
              refine g_ldcs X (i := 20) (by decide) rfl rfl dX11_factWord_52 ?_
              exact HR 20 _ _ _ _ (Option.some.inj hf).symm (by decide) w dX11_factWord_54
            · replace hf := ite_f cd_6 hf
              by_cases cd_7 : p0 = 5
              · replace hf := ite_t cd_7 hf
                refine g_tin (tgt := 55) (k := 5) (off := 54) X cd_7 hp0 (by decide) (by decide) (by rfl) dX11_factWord_1 (by decide) ?_
                refine g_ldcs X (i := 21) (by decide) rfl rfl dX11_factWord_55 ?_
                exact HR 21 _ _ _ _ (Option.some.inj hf).symm (by decide) w dX11_factWord_57
              · replace hf := ite_f cd_7 hf
                cases hf
set_option maxRecDepth 100000 in
set_option maxHeartbeats 4000000 in
theorem k_X11_factWord {l : Launch} {D : va_G} {aC : Nat → ClassId} {ad : Nat → Nat} {sg : SG} (hi : Inj ad) (p0 : Int) (hp0 : inR p0) {M : Mem} (hM : inM M) {r : Int} (hf : f_X11_factWord p0 M = some r) : MetT l D aC ad sg yX11_factWord cX11_factWord 1 rm_X11_factWord 0 0 [.int (i2 p0)] M r := by
  refine MetT.of (by decide +kernel) (nle rfl) hi hM (fun p e s m args below meth c Q H0 ls X hl w hret => ?_)
  exact b_X11_factWord_0 X  (fun r1 H locs pc ls eo hP w dg => by cases eo; exact hret H locs pc ls hP w dg) p0 hp0 hf hl w
set_option maxRecDepth 100000 in
set_option maxHeartbeats 4000000 in
theorem b_X11_factHere_s2 (X : CX p s m args c cX11_factHere 2 RX11 D aC ad sg A H0) {o : (Int × Mem) ⊕ ((Int × Mem) ⊕ (Int × Mem))} (HC : ∀ (y1 : Int) (M1 : Mem) (H : Heap) (locs : List Loc) (ls : Array Slot), o = .inl (y1, M1) → inR y1 → lv_has ls 2 [(0, .ref (ad 80)), (1, .int (i2 y1))] → WS D aC ad A H0 M1 H locs → W p l e rm_X11_factHere s m args below meth c H locs 0 0 Q (F0 m 2 ls [])) (HE : ∀ (y1 : Int) (M1 : Mem) (H : Heap) (locs : List Loc) (ls : Array Slot), o = .inr (.inl (y1, M1)) → inR y1 → lv_has ls 2 [(0, .ref (ad 80)), (1, .int (i2 y1))] → WS D aC ad A H0 M1 H locs → W p l e rm_X11_factHere s m args below meth c H locs 0 0 Q (F0 m 27 ls [])) (HR : ∀ (r : Int) (M1 : Mem) (H : Heap) (locs : List Loc) (pc : Nat) (ls : Array Slot), o = .inr (.inr (r, M1)) → inR r → WS D aC ad A H0 M1 H locs → decode cX11_factHere pc = .ok (.ireturn, 1) → W p l e rm_X11_factHere s m args below meth c H locs 0 0 Q (F0 m pc ls [.int (i2 r)])) (v1 : Int) (hv1 : inR v1) (M : Mem) (hf : f_X11_factHere_s2 v1 M = some o) {H : Heap} {locs : List Loc} {ls : Array Slot} (hl : lv_has ls 2 [(0, .ref (ad 80)), (1, .int (i2 v1))]) (w : WS D aC ad A H0 M H locs) : W p l e rm_X11_factHere s m args below meth c H locs 0 0 Q (F0 m 2 ls []) := by
  have hx := X.1.1
  have hb := X.1.2.1
  unfold f_X11_factHere_s2 at hf
  refine lv_iload_n hx hb dX11_factHere_2 rfl (lv_at hl 1 rfl) ?_
  refine g_bipush X dX11_factHere_3 (by decide) ?_
  refine g_icmp_ge (tgt := 27) X hv1 (inL rfl) dX11_factHere_5 (by decide) (fun cd => ?_) (fun cd => ?_)
  · replace hf := ite_t cd hf
    exact HE v1 M _ _ _ (Option.some.inj hf).symm hv1 hl w
  · replace hf := ite_f cd hf
    refine lv_aload_n hx hb dX11_factHere_8 rfl (lv_at hl 0 rfl) ?_
    refine lv_iload_n hx hb dX11_factHere_9 rfl (lv_at hl 1 rfl) ?_
    obtain ⟨r, hc, hf⟩ := obn_some hf
    refine g_cst (As := [.int (i2 v1)]) (rest := [.ref (ad 80)]) X w (k_X11_factWord X.2.2.1 v1 hv1 w.2.2 hc) lk_X11_248 ⟨rfl, rfl⟩ ⟨nle rfl, nle rfl⟩ ⟨nle rfl, nle rfl⟩ hl.1 rfl (nle rfl) dX11_factHere_10 (fun hr H locs w => ?_)
    obtain ⟨r_2, M_2, hc, hf⟩ := bnd_some hf
    refine g_cvi (As := [.ref (sg.1 r.toNat)]) (rest := []) X w (k_X11_isWord X.2.2.1 r.toNat (str_lt hr) w.2.2 hc) lk_X11_252 cl_11 KD_80 ⟨rfl, rfl⟩ ⟨nle rfl, nle rfl⟩ ⟨nle rfl, nle rfl⟩ hl.1 rfl (nle rfl) dX11_factHere_13 (fun hr_2 H locs w_M_2 => ?_)
    refine g_if_eq (tgt := 21) X hr_2 dX11_factHere_16 (by decide) (fun cd_2 => ?_) (fun cd_2 => ?_)
    · replace hf := ite_t cd_2 hf
      obtain ⟨v1_2, ev1_2, hf⟩ := lt_some hf
      have hv1_2 : inR v1_2 := inR_of ev1_2 (inR_wrap _)
      refine lv_iinc (v := i2 v1_2) (lv' := [(1, .int (i2 v1_2)), (0, .ref (ad 80))]) hx hb dX11_factHere_21 hl (k := 1) rfl (by rw [ev1_2]; exact i2_add _ _) (by decide) rfl (fun ls hl => ?_)
      refine lv_goto (tgt := 2) hx hb dX11_factHere_24 (by decide) ?_
      exact HC v1_2 M_2 _ _ _ (Option.some.inj hf).symm hv1_2 (lv_sub hl [1, 0] rfl) w_M_2
    · replace hf := ite_f cd_2 hf
      refine lv_iload_n hx hb dX11_factHere_19 rfl (lv_at hl 1 rfl) ?_
      exact HR v1 M_2 _ _ _ _ (Option.some.inj hf).symm hv1 w_M_2 dX11_factHere_20
set_option maxRecDepth 100000 in
set_option maxHeartbeats 4000000 in
theorem l_X11_factHere_2 (X : CX p s m args c cX11_factHere 2 RX11 D aC ad sg A H0) {out : (Int × Mem) ⊕ (Int × Mem)} (HE : ∀ (y1 : Int) (M1 : Mem) (H : Heap) (locs : List Loc) (ls : Array Slot), out = .inl (y1, M1) → inR y1 → lv_has ls 2 [(0, .ref (ad 80)), (1, .int (i2 y1))] → WS D aC ad A H0 M1 H locs → W p l e rm_X11_factHere s m args below meth c H locs 0 0 Q (F0 m 27 ls [])) (HR : ∀ (r : Int) (M1 : Mem) (H : Heap) (locs : List Loc) (pc : Nat) (ls : Array Slot), out = .inr (r, M1) → inR r → WS D aC ad A H0 M1 H locs → decode cX11_factHere pc = .ok (.ireturn, 1) → W p l e rm_X11_factHere s m args below meth c H locs 0 0 Q (F0 m pc ls [.int (i2 r)])) : ∀ (n : Nat) (v1 : Int) (M : Mem), whl (fun s => f_X11_factHere_s2 s.1 s.2) n (v1, M) = some out → inR v1 → ∀ {H : Heap} {locs : List Loc} {ls : Array Slot}, lv_has ls 2 [(0, .ref (ad 80)), (1, .int (i2 v1))] → WS D aC ad A H0 M H locs → W p l e rm_X11_factHere s m args below meth c H locs 0 0 Q (F0 m 2 ls []) := by
  intro n
  induction n with
  | zero => intro v1 M hf; exact (whl_zero hf).elim
  | succ n ih =>
    intro v1 M hf hv1 H locs ls hl w
    obtain ⟨o, hf, hk1, hk2⟩ := whl_step hf
    exact b_X11_factHere_s2 X  (fun y1 M1 H locs ls eo hy1 hl w => ih y1 M1 (hk1 _ eo) hy1 hl w) (fun y1 M1 H locs ls eo hy1 hl w => HE y1 M1 H locs ls (hk2 _ eo).symm hy1 hl w) (fun r M1 H locs pc ls eo hP w dg => HR r M1 H locs pc ls (hk2 _ eo).symm hP w dg) v1 hv1 M hf hl w
set_option maxRecDepth 100000 in
set_option maxHeartbeats 4000000 in
theorem b_X11_factHere_j27 (X : CX p s m args c cX11_factHere 2 RX11 D aC ad sg A H0) {o : Int × Mem} (HR : ∀ (r : Int) (M1 : Mem) (H : Heap) (locs : List Loc) (pc : Nat) (ls : Array Slot), o = (r, M1) → inR r → WS D aC ad A H0 M1 H locs → decode cX11_factHere pc = .ok (.ireturn, 1) → W p l e rm_X11_factHere s m args below meth c H locs 0 0 Q (F0 m pc ls [.int (i2 r)])) (M : Mem) (hf : f_X11_factHere_j27 M = some o) {H : Heap} {locs : List Loc} {ls : Array Slot} (hl : lv_has ls 2 []) (w : WS D aC ad A H0 M H locs) : W p l e rm_X11_factHere s m args below meth c H locs 0 0 Q (F0 m 27 ls []) := by
  have hx := X.1.1
  have hb := X.1.2.1
  unfold f_X11_factHere_j27 at hf
  refine g_iconst X dX11_factHere_27 ?_
  exact HR (-1) M _ _ _ _ (Option.some.inj hf).symm (inL rfl) w dX11_factHere_28
set_option maxRecDepth 100000 in
set_option maxHeartbeats 4000000 in
theorem b_X11_factHere_0 (X : CX p s m args c cX11_factHere 2 RX11 D aC ad sg A H0) {o : Int × Mem} (HR : ∀ (r : Int) (M1 : Mem) (H : Heap) (locs : List Loc) (pc : Nat) (ls : Array Slot), o = (r, M1) → inR r → WS D aC ad A H0 M1 H locs → decode cX11_factHere pc = .ok (.ireturn, 1) → W p l e rm_X11_factHere s m args below meth c H locs 0 0 Q (F0 m pc ls [.int (i2 r)])) (M : Mem) (hf : f_X11_factHere M = some o) {H : Heap} {locs : List Loc} {ls : Array Slot} (hl : lv_has ls 2 [(0, .ref (ad 80))]) (w : WS D aC ad A H0 M H locs) : W p l e rm_X11_factHere s m args below meth c H locs 0 0 Q (F0 m 0 ls []) := by
  have hx := X.1.1
  have hb := X.1.2.1
  unfold f_X11_factHere at hf
  refine g_iconst X dX11_factHere_0 ?_
  refine g_istn (v := 0) (lv' := [(1, .int (i2 0)), (0, .ref (ad 80))]) X rfl dX11_factHere_1 rfl hl (by decide) rfl (fun ls hl => ?_)
  obtain ⟨q, hq, h1, h2⟩ := lpr_some hf
  exact l_X11_factHere_2 X  (out := q) (fun y1 M1 H locs ls eq hy1 hl w => b_X11_factHere_j27 X  HR M1 (h1 _ eq) (lv_sub hl [] rfl) w) (fun r M1 H locs pc ls eq hP w dg => HR r M1 H locs pc ls (Option.some.inj (h2 _ eq)).symm hP w dg) FU 0 M hq (inL rfl) (lv_sub hl [1, 0] rfl) w
set_option maxRecDepth 100000 in
set_option maxHeartbeats 4000000 in
theorem k_X11_factHere {l : Launch} {D : va_G} {aC : Nat → ClassId} {ad : Nat → Nat} {sg : SG} (hi : Inj ad)  {M : Mem} (hM : inM M) {r : Int} {M' : Mem} (hf : f_X11_factHere M = some (r, M')) : MetI l D aC ad sg yX11_factHere cX11_factHere 2 (some .int) rm_X11_factHere 0 0 [.ref (ad 80)] M r M' := by
  refine MetI.ofI (by decide +kernel) (nle rfl) hi hM (fun p e s m args below meth c Q H0 ls X hl w hret => ?_)
  exact b_X11_factHere_0 X  (fun r1 M1 H locs pc ls eo hP w dg => by cases eo; exact hret H locs pc ls hP w dg) M hf hl w
set_option maxRecDepth 100000 in
set_option maxHeartbeats 4000000 in
theorem b_X11_takesTerm_j188 (X : CX p s m args c cX11_takesTerm 2 RX11 D aC ad sg A H0) {o : Int × Mem} (HR : ∀ (r : Int) (M1 : Mem) (H : Heap) (locs : List Loc) (pc : Nat) (ls : Array Slot), o = (r, M1) → isZ r → WS D aC ad A H0 M1 H locs → decode cX11_takesTerm pc = .ok (.ireturn, 1) → W p l e rm_X11_takesTerm s m args below meth c H locs 0 0 Q (F0 m pc ls [.int (i2 r)])) (v1 : Int) (hv1 : inR v1) (s0 : Int) (hs0 : inR s0) (s1 : Int) (hs1 : inR s1) (M : Mem) (hf : f_X11_takesTerm_j188 v1 s0 s1 M = some o) {H : Heap} {locs : List Loc} {ls : Array Slot} (hl : lv_has ls 2 [(0, .ref (ad 80)), (1, .int (i2 v1))]) (w : WS D aC ad A H0 M H locs) : W p l e rm_X11_takesTerm s m args below meth c H locs 0 0 Q (F0 m 188 ls [.int (i2 s0), .int (i2 s1), .ref (ad 103)]) := by
  have hx := X.1.1
  have hb := X.1.2.1
  unfold f_X11_takesTerm_j188 at hf
  obtain ⟨hg, hf⟩ := gd_some hf
  obtain ⟨M_2, eM_2, hf⟩ := lt_some hf
  refine g_iast X w KD_103 hs1 hg hs0 dX11_takesTerm_188 (fun H locs w_M_2 => ?_)
  rw [← eM_2] at w_M_2
  refine lv_aload_n hx hb dX11_takesTerm_189 rfl (lv_at hl 0 rfl) ?_
  obtain ⟨M_3, hc, hf⟩ := obn_some hf
  refine g_cvv (As := []) (rest := []) X w_M_2 (k_X11_next X.2.2.1  w_M_2.2.2 hc) lk_X11_262 cl_11 KD_80 ⟨rfl, rfl⟩ ⟨nle rfl, nle rfl⟩ ⟨nle rfl, nle rfl⟩ hl.1 rfl (nle rfl) dX11_takesTerm_190 (fun H locs w_M_3 => ?_)
  refine lv_aload_n hx hb dX11_takesTerm_193 rfl (lv_at hl 0 rfl) ?_
  refine g_geti X w_M_3 fg_X11_223 KD_80 FR_80_38 dX11_takesTerm_194 ?_
  refine g_iconst X dX11_takesTerm_197 ?_
  refine g_icmp_eq (tgt := 207) X (w_M_3.2.2 _ _) (inL rfl) dX11_takesTerm_198 (by decide) (fun cd => ?_) (fun cd => ?_)
  · replace hf := ite_t cd hf
    refine lv_aload_n hx hb dX11_takesTerm_207 rfl (lv_at hl 0 rfl) ?_
    refine g_getr X w_M_3 fg_X11_84 KD_80 FR_80_30 dX11_takesTerm_208 ?_
    refine lv_iload_n hx hb dX11_takesTerm_211 rfl (lv_at hl 1 rfl) ?_
    refine lv_aload_n hx hb dX11_takesTerm_212 rfl (lv_at hl 0 rfl) ?_
    refine g_geti X w_M_3 fg_X11_232 KD_80 FR_80_37 dX11_takesTerm_213 ?_
    obtain ⟨hg_2, hf⟩ := gd_some hf
    obtain ⟨M_4, eM_4, hf⟩ := lt_some hf
    refine g_iast X w_M_3 KD_104 hv1 hg_2 (w_M_3.2.2 _ _) dX11_takesTerm_216 (fun H locs w_M_4 => ?_)
    rw [← eM_4] at w_M_4
    refine lv_aload_n hx hb dX11_takesTerm_217 rfl (lv_at hl 0 rfl) ?_
    obtain ⟨M_5, hc, hf⟩ := obn_some hf
    refine g_cvv (As := []) (rest := []) X w_M_4 (k_X11_next X.2.2.1  w_M_4.2.2 hc) lk_X11_262 cl_11 KD_80 ⟨rfl, rfl⟩ ⟨nle rfl, nle rfl⟩ ⟨nle rfl, nle rfl⟩ hl.1 rfl (nle rfl) dX11_takesTerm_218 (fun H locs w_M_5 => ?_)
    refine g_iconst X dX11_takesTerm_221 ?_
    exact HR 1 M_5 _ _ _ _ (Option.some.inj hf).symm (Or.inr rfl) w_M_5 dX11_takesTerm_222
  · replace hf := ite_f cd hf
    refine lv_aload_n hx hb dX11_takesTerm_201 rfl (lv_at hl 0 rfl) ?_
    refine g_iconst X dX11_takesTerm_202 ?_
    obtain ⟨r, M_6, hc, hf⟩ := bnd_some hf
    refine g_cvi (As := [.int (i2 1)]) (rest := []) X w_M_3 (k_X11_wrong X.2.2.1 1 (inL rfl) w_M_3.2.2 hc) lk_X11_259 cl_11 KD_80 ⟨rfl, rfl⟩ ⟨nle rfl, nle rfl⟩ ⟨nle rfl, nle rfl⟩ hl.1 rfl (nle rfl) dX11_takesTerm_203 (fun hr H locs w_M_6 => ?_)
    obtain ⟨hz, hf⟩ := gd_some hf
    exact HR r M_6 _ _ _ _ (Option.some.inj hf).symm hz w_M_6 dX11_takesTerm_206
set_option maxRecDepth 100000 in
set_option maxHeartbeats 4000000 in
theorem b_X11_takesTerm_j26 (X : CX p s m args c cX11_takesTerm 2 RX11 D aC ad sg A H0) {o : Int × Mem} (HR : ∀ (r : Int) (M1 : Mem) (H : Heap) (locs : List Loc) (pc : Nat) (ls : Array Slot), o = (r, M1) → isZ r → WS D aC ad A H0 M1 H locs → decode cX11_takesTerm pc = .ok (.ireturn, 1) → W p l e rm_X11_takesTerm s m args below meth c H locs 0 0 Q (F0 m pc ls [.int (i2 r)])) (v1 : Int) (hv1 : inR v1) (M : Mem) (hf : f_X11_takesTerm_j26 v1 M = some o) {H : Heap} {locs : List Loc} {ls : Array Slot} (hl : lv_has ls 2 [(0, .ref (ad 80)), (1, .int (i2 v1))]) (w : WS D aC ad A H0 M H locs) : W p l e rm_X11_takesTerm s m args below meth c H locs 0 0 Q (F0 m 26 ls []) := by
  have hx := X.1.1
  have hb := X.1.2.1
  unfold f_X11_takesTerm_j26 at hf
  refine lv_aload_n hx hb dX11_takesTerm_26 rfl (lv_at hl 0 rfl) ?_
  refine g_ldcsw X (i := 15) (by decide) rfl rfl dX11_takesTerm_27 ?_
  obtain ⟨r, M_2, hc, hf⟩ := bnd_some hf
  refine g_cvi (As := [.ref (sg.1 15)]) (rest := []) X w (k_X11_isWord X.2.2.1 15 (by decide) w.2.2 hc) lk_X11_252 cl_11 KD_80 ⟨rfl, rfl⟩ ⟨nle rfl, nle rfl⟩ ⟨nle rfl, nle rfl⟩ hl.1 rfl (nle rfl) dX11_takesTerm_30 (fun hr H locs w_M_2 => ?_)
  refine g_if_eq (tgt := 93) X hr dX11_takesTerm_33 (by decide) (fun cd => ?_) (fun cd => ?_)
  · replace hf := ite_t cd hf
    refine lv_aload_n hx hb dX11_takesTerm_93 rfl (lv_at hl 0 rfl) ?_
    refine g_getr X w_M_2 fg_X11_78 KD_80 FR_80_28 dX11_takesTerm_94 ?_
    refine lv_iload_n hx hb dX11_takesTerm_97 rfl (lv_at hl 1 rfl) ?_
    refine lv_aload_n hx hb dX11_takesTerm_98 rfl (lv_at hl 0 rfl) ?_
    obtain ⟨r_2, M_3, hc, hf⟩ := bnd_some hf
    refine g_cvi (As := []) (rest := [.int (i2 v1), .ref (ad 102)]) X w_M_2 (k_X11_factHere X.2.2.1  w_M_2.2.2 hc) lk_X11_272 cl_11 KD_80 ⟨rfl, rfl⟩ ⟨nle rfl, nle rfl⟩ ⟨nle rfl, nle rfl⟩ hl.1 rfl (nle rfl) dX11_takesTerm_99 (fun hr_2 H locs w_M_3 => ?_)
    obtain ⟨hg, hf⟩ := gd_some hf
    obtain ⟨M_4, eM_4, hf⟩ := lt_some hf
    refine g_iast X w_M_3 KD_102 hv1 hg hr_2 dX11_takesTerm_102 (fun H locs w_M_4 => ?_)
    rw [← eM_4] at w_M_4
    refine lv_aload_n hx hb dX11_takesTerm_103 rfl (lv_at hl 0 rfl) ?_
    refine g_getr X w_M_4 fg_X11_78 KD_80 FR_80_28 dX11_takesTerm_104 ?_
    refine lv_iload_n hx hb dX11_takesTerm_107 rfl (lv_at hl 1 rfl) ?_
    obtain ⟨hg_2, hf⟩ := gd_some hf
    refine g_iald X w_M_4 KD_102 hv1 hg_2 dX11_takesTerm_108 ?_
    refine g_iconst X dX11_takesTerm_109 ?_
    refine g_icmp_ne (tgt := 119) X (w_M_4.2.2 _ _) (inL rfl) dX11_takesTerm_110 (by decide) (fun cd_2 => ?_) (fun cd_2 => ?_)
    · replace hf := ite_f cd_2 hf
      refine lv_aload_n hx hb dX11_takesTerm_119 rfl (lv_at hl 0 rfl) ?_
      obtain ⟨M_5, hc, hf⟩ := obn_some hf
      refine g_cvv (As := []) (rest := []) X w_M_4 (k_X11_next X.2.2.1  w_M_4.2.2 hc) lk_X11_262 cl_11 KD_80 ⟨rfl, rfl⟩ ⟨nle rfl, nle rfl⟩ ⟨nle rfl, nle rfl⟩ hl.1 rfl (nle rfl) dX11_takesTerm_120 (fun H locs w_M_5 => ?_)
      refine lv_aload_n hx hb dX11_takesTerm_123 rfl (lv_at hl 0 rfl) ?_
      refine g_bipush X dX11_takesTerm_124 (by decide) ?_
      obtain ⟨r_3, hc, hf⟩ := obn_some hf
      refine g_cvi (As := [.int (i2 60)]) (rest := []) X w_M_5 (k_X11_isSign X.2.2.1 60 (inL rfl) w_M_5.2.2 hc) lk_X11_265 cl_11 KD_80 ⟨rfl, rfl⟩ ⟨nle rfl, nle rfl⟩ ⟨nle rfl, nle rfl⟩ hl.1 rfl (nle rfl) dX11_takesTerm_126 (fun hr_3 H locs w_M_5 => ?_)
      refine g_if_ne (tgt := 156) X hr_3 dX11_takesTerm_129 (by decide) (fun cd_3 => ?_) (fun cd_3 => ?_)
      · replace hf := ite_f cd_3 hf
        refine lv_aload_n hx hb dX11_takesTerm_156 rfl (lv_at hl 0 rfl) ?_
        refine g_getr X w_M_5 fg_X11_81 KD_80 FR_80_29 dX11_takesTerm_157 ?_
        refine lv_iload_n hx hb dX11_takesTerm_160 rfl (lv_at hl 1 rfl) ?_
        refine lv_aload_n hx hb dX11_takesTerm_161 rfl (lv_at hl 0 rfl) ?_
        refine g_bipush X dX11_takesTerm_162 (by decide) ?_
        obtain ⟨r_4, hc, hf⟩ := obn_some hf
        refine g_cvi (As := [.int (i2 60)]) (rest := [.int (i2 v1), .ref (ad 103)]) X w_M_5 (k_X11_isSign X.2.2.1 60 (inL rfl) w_M_5.2.2 hc) lk_X11_265 cl_11 KD_80 ⟨rfl, rfl⟩ ⟨nle rfl, nle rfl⟩ ⟨nle rfl, nle rfl⟩ hl.1 rfl (nle rfl) dX11_takesTerm_164 (fun hr_4 H locs w_M_5 => ?_)
        refine g_if_eq (tgt := 174) X hr_4 dX11_takesTerm_167 (by decide) (fun cd_4 => ?_) (fun cd_4 => ?_)
        · replace hf := ite_t cd_4 hf
          refine lv_aload_n hx hb dX11_takesTerm_174 rfl (lv_at hl 0 rfl) ?_
          refine g_bipush X dX11_takesTerm_175 (by decide) ?_
          obtain ⟨r_5, hc, hf⟩ := obn_some hf
          refine g_cvi (As := [.int (i2 61)]) (rest := [.int (i2 v1), .ref (ad 103)]) X w_M_5 (k_X11_isSign X.2.2.1 61 (inL rfl) w_M_5.2.2 hc) lk_X11_265 cl_11 KD_80 ⟨rfl, rfl⟩ ⟨nle rfl, nle rfl⟩ ⟨nle rfl, nle rfl⟩ hl.1 rfl (nle rfl) dX11_takesTerm_177 (fun hr_5 H locs w_M_5 => ?_)
          refine g_if_eq (tgt := 187) X hr_5 dX11_takesTerm_180 (by decide) (fun cd_5 => ?_) (fun cd_5 => ?_)
          · replace hf := ite_t cd_5 hf
            refine g_iconst X dX11_takesTerm_187 ?_
            exact b_X11_takesTerm_j188 X  HR v1 hv1 2 (inL rfl) v1 hv1 M_5 hf hl w_M_5
          · replace hf := ite_f cd_5 hf
            refine g_iconst X dX11_takesTerm_183 ?_
            refine lv_goto (tgt := 188) hx hb dX11_takesTerm_184 (by decide) ?_
            exact b_X11_takesTerm_j188 X  HR v1 hv1 1 (inL rfl) v1 hv1 M_5 hf hl w_M_5
        · replace hf := ite_f cd_4 hf
          refine g_iconst X dX11_takesTerm_170 ?_
          refine lv_goto (tgt := 188) hx hb dX11_takesTerm_171 (by decide) ?_
          exact b_X11_takesTerm_j188 X  HR v1 hv1 0 (inL rfl) v1 hv1 M_5 hf hl w_M_5
      · replace hf := ite_t cd_3 hf
        refine lv_aload_n hx hb dX11_takesTerm_132 rfl (lv_at hl 0 rfl) ?_
        refine g_bipush X dX11_takesTerm_133 (by decide) ?_
        obtain ⟨r_6, hc, hf⟩ := obn_some hf
        refine g_cvi (As := [.int (i2 61)]) (rest := []) X w_M_5 (k_X11_isSign X.2.2.1 61 (inL rfl) w_M_5.2.2 hc) lk_X11_265 cl_11 KD_80 ⟨rfl, rfl⟩ ⟨nle rfl, nle rfl⟩ ⟨nle rfl, nle rfl⟩ hl.1 rfl (nle rfl) dX11_takesTerm_135 (fun hr_6 H locs w_M_5 => ?_)
        refine g_if_ne (tgt := 156) X hr_6 dX11_takesTerm_138 (by decide) (fun cd_6 => ?_) (fun cd_6 => ?_)
        · replace hf := ite_f cd_6 hf
          refine lv_aload_n hx hb dX11_takesTerm_156 rfl (lv_at hl 0 rfl) ?_
          refine g_getr X w_M_5 fg_X11_81 KD_80 FR_80_29 dX11_takesTerm_157 ?_
          refine lv_iload_n hx hb dX11_takesTerm_160 rfl (lv_at hl 1 rfl) ?_
          refine lv_aload_n hx hb dX11_takesTerm_161 rfl (lv_at hl 0 rfl) ?_
          refine g_bipush X dX11_takesTerm_162 (by decide) ?_
          obtain ⟨r_7, hc, hf⟩ := obn_some hf
          refine g_cvi (As := [.int (i2 60)]) (rest := [.int (i2 v1), .ref (ad 103)]) X w_M_5 (k_X11_isSign X.2.2.1 60 (inL rfl) w_M_5.2.2 hc) lk_X11_265 cl_11 KD_80 ⟨rfl, rfl⟩ ⟨nle rfl, nle rfl⟩ ⟨nle rfl, nle rfl⟩ hl.1 rfl (nle rfl) dX11_takesTerm_164 (fun hr_7 H locs w_M_5 => ?_)
          refine g_if_eq (tgt := 174) X hr_7 dX11_takesTerm_167 (by decide) (fun cd_7 => ?_) (fun cd_7 => ?_)
          · replace hf := ite_t cd_7 hf
            refine lv_aload_n hx hb dX11_takesTerm_174 rfl (lv_at hl 0 rfl) ?_
            refine g_bipush X dX11_takesTerm_175 (by decide) ?_
            obtain ⟨r_8, hc, hf⟩ := obn_some hf
            refine g_cvi (As := [.int (i2 61)]) (rest := [.int (i2 v1), .ref (ad 103)]) X w_M_5 (k_X11_isSign X.2.2.1 61 (inL rfl) w_M_5.2.2 hc) lk_X11_265 cl_11 KD_80 ⟨rfl, rfl⟩ ⟨nle rfl, nle rfl⟩ ⟨nle rfl, nle rfl⟩ hl.1 rfl (nle rfl) dX11_takesTerm_177 (fun hr_8 H locs w_M_5 => ?_)
            refine g_if_eq (tgt := 187) X hr_8 dX11_takesTerm_180 (by decide) (fun cd_8 => ?_) (fun cd_8 => ?_)
            · replace hf := ite_t cd_8 hf
              refine g_iconst X dX11_takesTerm_187 ?_
              exact b_X11_takesTerm_j188 X  HR v1 hv1 2 (inL rfl) v1 hv1 M_5 hf hl w_M_5
            · replace hf := ite_f cd_8 hf
              refine g_iconst X dX11_takesTerm_183 ?_
              refine lv_goto (tgt := 188) hx hb dX11_takesTerm_184 (by decide) ?_
              exact b_X11_takesTerm_j188 X  HR v1 hv1 1 (inL rfl) v1 hv1 M_5 hf hl w_M_5
          · replace hf := ite_f cd_7 hf
            refine g_iconst X dX11_takesTerm_170 ?_
            refine lv_goto (tgt := 188) hx hb dX11_takesTerm_171 (by decide) ?_
            exact b_X11_takesTerm_j188 X  HR v1 hv1 0 (inL rfl) v1 hv1 M_5 hf hl w_M_5
        · replace hf := ite_t cd_6 hf
          refine lv_aload_n hx hb dX11_takesTerm_141 rfl (lv_at hl 0 rfl) ?_
          refine g_bipush X dX11_takesTerm_142 (by decide) ?_
          obtain ⟨r_9, hc, hf⟩ := obn_some hf
          refine g_cvi (As := [.int (i2 62)]) (rest := []) X w_M_5 (k_X11_isSign X.2.2.1 62 (inL rfl) w_M_5.2.2 hc) lk_X11_265 cl_11 KD_80 ⟨rfl, rfl⟩ ⟨nle rfl, nle rfl⟩ ⟨nle rfl, nle rfl⟩ hl.1 rfl (nle rfl) dX11_takesTerm_144 (fun hr_9 H locs w_M_5 => ?_)
          refine g_if_ne (tgt := 156) X hr_9 dX11_takesTerm_147 (by decide) (fun cd_9 => ?_) (fun cd_9 => ?_)
          · replace hf := ite_f cd_9 hf
            refine lv_aload_n hx hb dX11_takesTerm_156 rfl (lv_at hl 0 rfl) ?_
            refine g_getr X w_M_5 fg_X11_81 KD_80 FR_80_29 dX11_takesTerm_157 ?_
            refine lv_iload_n hx hb dX11_takesTerm_160 rfl (lv_at hl 1 rfl) ?_
            refine lv_aload_n hx hb dX11_takesTerm_161 rfl (lv_at hl 0 rfl) ?_
            refine g_bipush X dX11_takesTerm_162 (by decide) ?_
            obtain ⟨r_10, hc, hf⟩ := obn_some hf
            refine g_cvi (As := [.int (i2 60)]) (rest := [.int (i2 v1), .ref (ad 103)]) X w_M_5 (k_X11_isSign X.2.2.1 60 (inL rfl) w_M_5.2.2 hc) lk_X11_265 cl_11 KD_80 ⟨rfl, rfl⟩ ⟨nle rfl, nle rfl⟩ ⟨nle rfl, nle rfl⟩ hl.1 rfl (nle rfl) dX11_takesTerm_164 (fun hr_10 H locs w_M_5 => ?_)
            refine g_if_eq (tgt := 174) X hr_10 dX11_takesTerm_167 (by decide) (fun cd_10 => ?_) (fun cd_10 => ?_)
            · replace hf := ite_t cd_10 hf
              refine lv_aload_n hx hb dX11_takesTerm_174 rfl (lv_at hl 0 rfl) ?_
              refine g_bipush X dX11_takesTerm_175 (by decide) ?_
              obtain ⟨r_11, hc, hf⟩ := obn_some hf
              refine g_cvi (As := [.int (i2 61)]) (rest := [.int (i2 v1), .ref (ad 103)]) X w_M_5 (k_X11_isSign X.2.2.1 61 (inL rfl) w_M_5.2.2 hc) lk_X11_265 cl_11 KD_80 ⟨rfl, rfl⟩ ⟨nle rfl, nle rfl⟩ ⟨nle rfl, nle rfl⟩ hl.1 rfl (nle rfl) dX11_takesTerm_177 (fun hr_11 H locs w_M_5 => ?_)
              refine g_if_eq (tgt := 187) X hr_11 dX11_takesTerm_180 (by decide) (fun cd_11 => ?_) (fun cd_11 => ?_)
              · replace hf := ite_t cd_11 hf
                refine g_iconst X dX11_takesTerm_187 ?_
                exact b_X11_takesTerm_j188 X  HR v1 hv1 2 (inL rfl) v1 hv1 M_5 hf hl w_M_5
              · replace hf := ite_f cd_11 hf
                refine g_iconst X dX11_takesTerm_183 ?_
                refine lv_goto (tgt := 188) hx hb dX11_takesTerm_184 (by decide) ?_
                exact b_X11_takesTerm_j188 X  HR v1 hv1 1 (inL rfl) v1 hv1 M_5 hf hl w_M_5
            · replace hf := ite_f cd_10 hf
              refine g_iconst X dX11_takesTerm_170 ?_
              refine lv_goto (tgt := 188) hx hb dX11_takesTerm_171 (by decide) ?_
              exact b_X11_takesTerm_j188 X  HR v1 hv1 0 (inL rfl) v1 hv1 M_5 hf hl w_M_5
          · replace hf := ite_t cd_9 hf
            refine lv_aload_n hx hb dX11_takesTerm_150 rfl (lv_at hl 0 rfl) ?_
            refine g_iconst X dX11_takesTerm_151 ?_
            obtain ⟨r_12, M_6, hc, hf⟩ := bnd_some hf
            refine g_cvi (As := [.int (i2 1)]) (rest := []) X w_M_5 (k_X11_wrong X.2.2.1 1 (inL rfl) w_M_5.2.2 hc) lk_X11_259 cl_11 KD_80 ⟨rfl, rfl⟩ ⟨nle rfl, nle rfl⟩ ⟨nle rfl, nle rfl⟩ hl.1 rfl (nle rfl) dX11_takesTerm_152 (fun hr_12 H locs w_M_6 => ?_)
            obtain ⟨hz, hf⟩ := gd_some hf
            exact HR r_12 M_6 _ _ _ _ (Option.some.inj hf).symm hz w_M_6 dX11_takesTerm_155
    · replace hf := ite_t cd_2 hf
      refine lv_aload_n hx hb dX11_takesTerm_113 rfl (lv_at hl 0 rfl) ?_
      refine g_iconst X dX11_takesTerm_114 ?_
      obtain ⟨r_13, M_7, hc, hf⟩ := bnd_some hf
      refine g_cvi (As := [.int (i2 1)]) (rest := []) X w_M_4 (k_X11_wrong X.2.2.1 1 (inL rfl) w_M_4.2.2 hc) lk_X11_259 cl_11 KD_80 ⟨rfl, rfl⟩ ⟨nle rfl, nle rfl⟩ ⟨nle rfl, nle rfl⟩ hl.1 rfl (nle rfl) dX11_takesTerm_115 (fun hr_13 H locs w_M_7 => ?_)
      obtain ⟨hz_2, hf⟩ := gd_some hf
      exact HR r_13 M_7 _ _ _ _ (Option.some.inj hf).symm hz_2 w_M_7 dX11_takesTerm_118
  · replace hf := ite_f cd hf
    refine lv_aload_n hx hb dX11_takesTerm_36 rfl (lv_at hl 0 rfl) ?_
    obtain ⟨M_8, hc, hf⟩ := obn_some hf
    refine g_cvv (As := []) (rest := []) X w_M_2 (k_X11_next X.2.2.1  w_M_2.2.2 hc) lk_X11_262 cl_11 KD_80 ⟨rfl, rfl⟩ ⟨nle rfl, nle rfl⟩ ⟨nle rfl, nle rfl⟩ hl.1 rfl (nle rfl) dX11_takesTerm_37 (fun H locs w_M_8 => ?_)
    refine lv_aload_n hx hb dX11_takesTerm_40 rfl (lv_at hl 0 rfl) ?_
    refine g_geti X w_M_8 fg_X11_223 KD_80 FR_80_38 dX11_takesTerm_41 ?_
    refine g_iconst X dX11_takesTerm_44 ?_
    refine g_icmp_eq (tgt := 54) X (w_M_8.2.2 _ _) (inL rfl) dX11_takesTerm_45 (by decide) (fun cd_12 => ?_) (fun cd_12 => ?_)
    · replace hf := ite_t cd_12 hf
      refine lv_aload_n hx hb dX11_takesTerm_54 rfl (lv_at hl 0 rfl) ?_
      refine g_geti X w_M_8 fg_X11_232 KD_80 FR_80_37 dX11_takesTerm_55 ?_
      refine g_bipush X dX11_takesTerm_58 (by decide) ?_
      refine g_icmp_le (tgt := 69) X (w_M_8.2.2 _ _) (inL rfl) dX11_takesTerm_60 (by decide) (fun cd_13 => ?_) (fun cd_13 => ?_)
      · replace hf := ite_t cd_13 hf
        refine lv_aload_n hx hb dX11_takesTerm_69 rfl (lv_at hl 0 rfl) ?_
        refine g_getr X w_M_8 fg_X11_78 KD_80 FR_80_28 dX11_takesTerm_70 ?_
        refine lv_iload_n hx hb dX11_takesTerm_73 rfl (lv_at hl 1 rfl) ?_
        refine g_bipush X dX11_takesTerm_74 (by decide) ?_
        obtain ⟨hg_3, hf⟩ := gd_some hf
        obtain ⟨M_9, eM_9, hf⟩ := lt_some hf
        refine g_iast X w_M_8 KD_102 hv1 hg_3 (inL rfl) dX11_takesTerm_76 (fun H locs w_M_9 => ?_)
        rw [← eM_9] at w_M_9
        refine lv_aload_n hx hb dX11_takesTerm_77 rfl (lv_at hl 0 rfl) ?_
        refine g_getr X w_M_9 fg_X11_84 KD_80 FR_80_30 dX11_takesTerm_78 ?_
        refine lv_iload_n hx hb dX11_takesTerm_81 rfl (lv_at hl 1 rfl) ?_
        refine lv_aload_n hx hb dX11_takesTerm_82 rfl (lv_at hl 0 rfl) ?_
        refine g_geti X w_M_9 fg_X11_232 KD_80 FR_80_37 dX11_takesTerm_83 ?_
        obtain ⟨hg_4, hf⟩ := gd_some hf
        obtain ⟨M_10, eM_10, hf⟩ := lt_some hf
        refine g_iast X w_M_9 KD_104 hv1 hg_4 (w_M_9.2.2 _ _) dX11_takesTerm_86 (fun H locs w_M_10 => ?_)
        rw [← eM_10] at w_M_10
        refine lv_aload_n hx hb dX11_takesTerm_87 rfl (lv_at hl 0 rfl) ?_
        obtain ⟨M_11, hc, hf⟩ := obn_some hf
        refine g_cvv (As := []) (rest := []) X w_M_10 (k_X11_next X.2.2.1  w_M_10.2.2 hc) lk_X11_262 cl_11 KD_80 ⟨rfl, rfl⟩ ⟨nle rfl, nle rfl⟩ ⟨nle rfl, nle rfl⟩ hl.1 rfl (nle rfl) dX11_takesTerm_88 (fun H locs w_M_11 => ?_)
        refine g_iconst X dX11_takesTerm_91 ?_
        exact HR 1 M_11 _ _ _ _ (Option.some.inj hf).symm (Or.inr rfl) w_M_11 dX11_takesTerm_92
      · replace hf := ite_f cd_13 hf
        refine lv_aload_n hx hb dX11_takesTerm_63 rfl (lv_at hl 0 rfl) ?_
        refine g_iconst X dX11_takesTerm_64 ?_
        obtain ⟨r_14, M_12, hc, hf⟩ := bnd_some hf
        refine g_cvi (As := [.int (i2 2)]) (rest := []) X w_M_8 (k_X11_wrong X.2.2.1 2 (inL rfl) w_M_8.2.2 hc) lk_X11_259 cl_11 KD_80 ⟨rfl, rfl⟩ ⟨nle rfl, nle rfl⟩ ⟨nle rfl, nle rfl⟩ hl.1 rfl (nle rfl) dX11_takesTerm_65 (fun hr_14 H locs w_M_12 => ?_)
        obtain ⟨hz_3, hf⟩ := gd_some hf
        exact HR r_14 M_12 _ _ _ _ (Option.some.inj hf).symm hz_3 w_M_12 dX11_takesTerm_68
    · replace hf := ite_f cd_12 hf
      refine lv_aload_n hx hb dX11_takesTerm_48 rfl (lv_at hl 0 rfl) ?_
      refine g_iconst X dX11_takesTerm_49 ?_
      obtain ⟨r_15, M_13, hc, hf⟩ := bnd_some hf
      refine g_cvi (As := [.int (i2 1)]) (rest := []) X w_M_8 (k_X11_wrong X.2.2.1 1 (inL rfl) w_M_8.2.2 hc) lk_X11_259 cl_11 KD_80 ⟨rfl, rfl⟩ ⟨nle rfl, nle rfl⟩ ⟨nle rfl, nle rfl⟩ hl.1 rfl (nle rfl) dX11_takesTerm_50 (fun hr_15 H locs w_M_13 => ?_)
      obtain ⟨hz_4, hf⟩ := gd_some hf
      exact HR r_15 M_13 _ _ _ _ (Option.some.inj hf).symm hz_4 w_M_13 dX11_takesTerm_53
set_option maxRecDepth 100000 in
set_option maxHeartbeats 4000000 in
theorem b_X11_takesTerm_0 (X : CX p s m args c cX11_takesTerm 2 RX11 D aC ad sg A H0) {o : Int × Mem} (HR : ∀ (r : Int) (M1 : Mem) (H : Heap) (locs : List Loc) (pc : Nat) (ls : Array Slot), o = (r, M1) → isZ r → WS D aC ad A H0 M1 H locs → decode cX11_takesTerm pc = .ok (.ireturn, 1) → W p l e rm_X11_takesTerm s m args below meth c H locs 0 0 Q (F0 m pc ls [.int (i2 r)])) (p1 : Int) (hp1 : inR p1) (M : Mem) (hf : f_X11_takesTerm p1 M = some o) {H : Heap} {locs : List Loc} {ls : Array Slot} (hl : lv_has ls 2 [(0, .ref (ad 80)), (1, .int (i2 p1))]) (w : WS D aC ad A H0 M H locs) : W p l e rm_X11_takesTerm s m args below meth c H locs 0 0 Q (F0 m 0 ls []) := by
  have hx := X.1.1
  have hb := X.1.2.1
  unfold f_X11_takesTerm at hf
  refine lv_aload_n hx hb dX11_takesTerm_0 rfl (lv_at hl 0 rfl) ?_
  refine g_getr X w fg_X11_75 KD_80 FR_80_27 dX11_takesTerm_1 ?_
  refine lv_iload_n hx hb dX11_takesTerm_4 rfl (lv_at hl 1 rfl) ?_
  refine lv_aload_n hx hb dX11_takesTerm_5 rfl (lv_at hl 0 rfl) ?_
  refine g_ldcsw X (i := 14) (by decide) rfl rfl dX11_takesTerm_6 ?_
  obtain ⟨r, M_2, hc, hf⟩ := bnd_some hf
  refine g_cvi (As := [.ref (sg.1 14)]) (rest := [.int (i2 p1), .ref (ad 101)]) X w (k_X11_isWord X.2.2.1 14 (by decide) w.2.2 hc) lk_X11_252 cl_11 KD_80 ⟨rfl, rfl⟩ ⟨nle rfl, nle rfl⟩ ⟨nle rfl, nle rfl⟩ hl.1 rfl (nle rfl) dX11_takesTerm_9 (fun hr H locs w_M_2 => ?_)
  obtain ⟨hg, hf⟩ := gd_some hf
  obtain ⟨hz, hf⟩ := gd_some hf
  obtain ⟨M_3, eM_3, hf⟩ := lt_some hf
  refine g_zast X w_M_2 KD_101 hp1 hg hz dX11_takesTerm_12 (fun H locs w_M_3 => ?_)
  rw [← eM_3] at w_M_3
  refine lv_aload_n hx hb dX11_takesTerm_13 rfl (lv_at hl 0 rfl) ?_
  refine g_getr X w_M_3 fg_X11_75 KD_80 FR_80_27 dX11_takesTerm_14 ?_
  refine lv_iload_n hx hb dX11_takesTerm_17 rfl (lv_at hl 1 rfl) ?_
  obtain ⟨hg_2, hf⟩ := gd_some hf
  refine g_zald X w_M_3 KD_101 hp1 hg_2 dX11_takesTerm_18 ?_
  refine g_if_eq (tgt := 26) X (w_M_3.2.2 _ _) dX11_takesTerm_19 (by decide) (fun cd => ?_) (fun cd => ?_)
  · replace hf := ite_t cd hf
    refine lv_aload_n hx hb dX11_takesTerm_26 rfl (lv_at hl 0 rfl) ?_
    refine g_ldcsw X (i := 15) (by decide) rfl rfl dX11_takesTerm_27 ?_
    obtain ⟨r_2, M_4, hc, hf⟩ := bnd_some hf
    refine g_cvi (As := [.ref (sg.1 15)]) (rest := []) X w_M_3 (k_X11_isWord X.2.2.1 15 (by decide) w_M_3.2.2 hc) lk_X11_252 cl_11 KD_80 ⟨rfl, rfl⟩ ⟨nle rfl, nle rfl⟩ ⟨nle rfl, nle rfl⟩ hl.1 rfl (nle rfl) dX11_takesTerm_30 (fun hr_2 H locs w_M_4 => ?_)
    refine g_if_eq (tgt := 93) X hr_2 dX11_takesTerm_33 (by decide) (fun cd_2 => ?_) (fun cd_2 => ?_)
    · replace hf := ite_t cd_2 hf
      refine lv_aload_n hx hb dX11_takesTerm_93 rfl (lv_at hl 0 rfl) ?_
      refine g_getr X w_M_4 fg_X11_78 KD_80 FR_80_28 dX11_takesTerm_94 ?_
      refine lv_iload_n hx hb dX11_takesTerm_97 rfl (lv_at hl 1 rfl) ?_
      refine lv_aload_n hx hb dX11_takesTerm_98 rfl (lv_at hl 0 rfl) ?_
      obtain ⟨r_3, M_5, hc, hf⟩ := bnd_some hf
      refine g_cvi (As := []) (rest := [.int (i2 p1), .ref (ad 102)]) X w_M_4 (k_X11_factHere X.2.2.1  w_M_4.2.2 hc) lk_X11_272 cl_11 KD_80 ⟨rfl, rfl⟩ ⟨nle rfl, nle rfl⟩ ⟨nle rfl, nle rfl⟩ hl.1 rfl (nle rfl) dX11_takesTerm_99 (fun hr_3 H locs w_M_5 => ?_)
      obtain ⟨hg_3, hf⟩ := gd_some hf
      obtain ⟨M_6, eM_6, hf⟩ := lt_some hf
      refine g_iast X w_M_5 KD_102 hp1 hg_3 hr_3 dX11_takesTerm_102 (fun H locs w_M_6 => ?_)
      rw [← eM_6] at w_M_6
      refine lv_aload_n hx hb dX11_takesTerm_103 rfl (lv_at hl 0 rfl) ?_
      refine g_getr X w_M_6 fg_X11_78 KD_80 FR_80_28 dX11_takesTerm_104 ?_
      refine lv_iload_n hx hb dX11_takesTerm_107 rfl (lv_at hl 1 rfl) ?_
      obtain ⟨hg_4, hf⟩ := gd_some hf
      refine g_iald X w_M_6 KD_102 hp1 hg_4 dX11_takesTerm_108 ?_
      refine g_iconst X dX11_takesTerm_109 ?_
      refine g_icmp_ne (tgt := 119) X (w_M_6.2.2 _ _) (inL rfl) dX11_takesTerm_110 (by decide) (fun cd_3 => ?_) (fun cd_3 => ?_)
      · replace hf := ite_f cd_3 hf
        refine lv_aload_n hx hb dX11_takesTerm_119 rfl (lv_at hl 0 rfl) ?_
        obtain ⟨M_7, hc, hf⟩ := obn_some hf
        refine g_cvv (As := []) (rest := []) X w_M_6 (k_X11_next X.2.2.1  w_M_6.2.2 hc) lk_X11_262 cl_11 KD_80 ⟨rfl, rfl⟩ ⟨nle rfl, nle rfl⟩ ⟨nle rfl, nle rfl⟩ hl.1 rfl (nle rfl) dX11_takesTerm_120 (fun H locs w_M_7 => ?_)
        refine lv_aload_n hx hb dX11_takesTerm_123 rfl (lv_at hl 0 rfl) ?_
        refine g_bipush X dX11_takesTerm_124 (by decide) ?_
        obtain ⟨r_4, hc, hf⟩ := obn_some hf
        refine g_cvi (As := [.int (i2 60)]) (rest := []) X w_M_7 (k_X11_isSign X.2.2.1 60 (inL rfl) w_M_7.2.2 hc) lk_X11_265 cl_11 KD_80 ⟨rfl, rfl⟩ ⟨nle rfl, nle rfl⟩ ⟨nle rfl, nle rfl⟩ hl.1 rfl (nle rfl) dX11_takesTerm_126 (fun hr_4 H locs w_M_7 => ?_)
        refine g_if_ne (tgt := 156) X hr_4 dX11_takesTerm_129 (by decide) (fun cd_4 => ?_) (fun cd_4 => ?_)
        · replace hf := ite_f cd_4 hf
          refine lv_aload_n hx hb dX11_takesTerm_156 rfl (lv_at hl 0 rfl) ?_
          refine g_getr X w_M_7 fg_X11_81 KD_80 FR_80_29 dX11_takesTerm_157 ?_
          refine lv_iload_n hx hb dX11_takesTerm_160 rfl (lv_at hl 1 rfl) ?_
          refine lv_aload_n hx hb dX11_takesTerm_161 rfl (lv_at hl 0 rfl) ?_
          refine g_bipush X dX11_takesTerm_162 (by decide) ?_
          obtain ⟨r_5, hc, hf⟩ := obn_some hf
          refine g_cvi (As := [.int (i2 60)]) (rest := [.int (i2 p1), .ref (ad 103)]) X w_M_7 (k_X11_isSign X.2.2.1 60 (inL rfl) w_M_7.2.2 hc) lk_X11_265 cl_11 KD_80 ⟨rfl, rfl⟩ ⟨nle rfl, nle rfl⟩ ⟨nle rfl, nle rfl⟩ hl.1 rfl (nle rfl) dX11_takesTerm_164 (fun hr_5 H locs w_M_7 => ?_)
          refine g_if_eq (tgt := 174) X hr_5 dX11_takesTerm_167 (by decide) (fun cd_5 => ?_) (fun cd_5 => ?_)
          · replace hf := ite_t cd_5 hf
            refine lv_aload_n hx hb dX11_takesTerm_174 rfl (lv_at hl 0 rfl) ?_
            refine g_bipush X dX11_takesTerm_175 (by decide) ?_
            obtain ⟨r_6, hc, hf⟩ := obn_some hf
            refine g_cvi (As := [.int (i2 61)]) (rest := [.int (i2 p1), .ref (ad 103)]) X w_M_7 (k_X11_isSign X.2.2.1 61 (inL rfl) w_M_7.2.2 hc) lk_X11_265 cl_11 KD_80 ⟨rfl, rfl⟩ ⟨nle rfl, nle rfl⟩ ⟨nle rfl, nle rfl⟩ hl.1 rfl (nle rfl) dX11_takesTerm_177 (fun hr_6 H locs w_M_7 => ?_)
            refine g_if_eq (tgt := 187) X hr_6 dX11_takesTerm_180 (by decide) (fun cd_6 => ?_) (fun cd_6 => ?_)
            · replace hf := ite_t cd_6 hf
              refine g_iconst X dX11_takesTerm_187 ?_
              exact b_X11_takesTerm_j188 X  HR p1 hp1 2 (inL rfl) p1 hp1 M_7 hf hl w_M_7
            · replace hf := ite_f cd_6 hf
              refine g_iconst X dX11_takesTerm_183 ?_
              refine lv_goto (tgt := 188) hx hb dX11_takesTerm_184 (by decide) ?_
              exact b_X11_takesTerm_j188 X  HR p1 hp1 1 (inL rfl) p1 hp1 M_7 hf hl w_M_7
          · replace hf := ite_f cd_5 hf
            refine g_iconst X dX11_takesTerm_170 ?_
            refine lv_goto (tgt := 188) hx hb dX11_takesTerm_171 (by decide) ?_
            exact b_X11_takesTerm_j188 X  HR p1 hp1 0 (inL rfl) p1 hp1 M_7 hf hl w_M_7
        · replace hf := ite_t cd_4 hf
          refine lv_aload_n hx hb dX11_takesTerm_132 rfl (lv_at hl 0 rfl) ?_
          refine g_bipush X dX11_takesTerm_133 (by decide) ?_
          obtain ⟨r_7, hc, hf⟩ := obn_some hf
          refine g_cvi (As := [.int (i2 61)]) (rest := []) X w_M_7 (k_X11_isSign X.2.2.1 61 (inL rfl) w_M_7.2.2 hc) lk_X11_265 cl_11 KD_80 ⟨rfl, rfl⟩ ⟨nle rfl, nle rfl⟩ ⟨nle rfl, nle rfl⟩ hl.1 rfl (nle rfl) dX11_takesTerm_135 (fun hr_7 H locs w_M_7 => ?_)
          refine g_if_ne (tgt := 156) X hr_7 dX11_takesTerm_138 (by decide) (fun cd_7 => ?_) (fun cd_7 => ?_)
          · replace hf := ite_f cd_7 hf
            refine lv_aload_n hx hb dX11_takesTerm_156 rfl (lv_at hl 0 rfl) ?_
            refine g_getr X w_M_7 fg_X11_81 KD_80 FR_80_29 dX11_takesTerm_157 ?_
            refine lv_iload_n hx hb dX11_takesTerm_160 rfl (lv_at hl 1 rfl) ?_
            refine lv_aload_n hx hb dX11_takesTerm_161 rfl (lv_at hl 0 rfl) ?_
            refine g_bipush X dX11_takesTerm_162 (by decide) ?_
            obtain ⟨r_8, hc, hf⟩ := obn_some hf
            refine g_cvi (As := [.int (i2 60)]) (rest := [.int (i2 p1), .ref (ad 103)]) X w_M_7 (k_X11_isSign X.2.2.1 60 (inL rfl) w_M_7.2.2 hc) lk_X11_265 cl_11 KD_80 ⟨rfl, rfl⟩ ⟨nle rfl, nle rfl⟩ ⟨nle rfl, nle rfl⟩ hl.1 rfl (nle rfl) dX11_takesTerm_164 (fun hr_8 H locs w_M_7 => ?_)
            refine g_if_eq (tgt := 174) X hr_8 dX11_takesTerm_167 (by decide) (fun cd_8 => ?_) (fun cd_8 => ?_)
            · replace hf := ite_t cd_8 hf
              refine lv_aload_n hx hb dX11_takesTerm_174 rfl (lv_at hl 0 rfl) ?_
              refine g_bipush X dX11_takesTerm_175 (by decide) ?_
              obtain ⟨r_9, hc, hf⟩ := obn_some hf
              refine g_cvi (As := [.int (i2 61)]) (rest := [.int (i2 p1), .ref (ad 103)]) X w_M_7 (k_X11_isSign X.2.2.1 61 (inL rfl) w_M_7.2.2 hc) lk_X11_265 cl_11 KD_80 ⟨rfl, rfl⟩ ⟨nle rfl, nle rfl⟩ ⟨nle rfl, nle rfl⟩ hl.1 rfl (nle rfl) dX11_takesTerm_177 (fun hr_9 H locs w_M_7 => ?_)
              refine g_if_eq (tgt := 187) X hr_9 dX11_takesTerm_180 (by decide) (fun cd_9 => ?_) (fun cd_9 => ?_)
              · replace hf := ite_t cd_9 hf
                refine g_iconst X dX11_takesTerm_187 ?_
                exact b_X11_takesTerm_j188 X  HR p1 hp1 2 (inL rfl) p1 hp1 M_7 hf hl w_M_7
              · replace hf := ite_f cd_9 hf
                refine g_iconst X dX11_takesTerm_183 ?_
                refine lv_goto (tgt := 188) hx hb dX11_takesTerm_184 (by decide) ?_
                exact b_X11_takesTerm_j188 X  HR p1 hp1 1 (inL rfl) p1 hp1 M_7 hf hl w_M_7
            · replace hf := ite_f cd_8 hf
              refine g_iconst X dX11_takesTerm_170 ?_
              refine lv_goto (tgt := 188) hx hb dX11_takesTerm_171 (by decide) ?_
              exact b_X11_takesTerm_j188 X  HR p1 hp1 0 (inL rfl) p1 hp1 M_7 hf hl w_M_7
          · replace hf := ite_t cd_7 hf
            refine lv_aload_n hx hb dX11_takesTerm_141 rfl (lv_at hl 0 rfl) ?_
            refine g_bipush X dX11_takesTerm_142 (by decide) ?_
            obtain ⟨r_10, hc, hf⟩ := obn_some hf
            refine g_cvi (As := [.int (i2 62)]) (rest := []) X w_M_7 (k_X11_isSign X.2.2.1 62 (inL rfl) w_M_7.2.2 hc) lk_X11_265 cl_11 KD_80 ⟨rfl, rfl⟩ ⟨nle rfl, nle rfl⟩ ⟨nle rfl, nle rfl⟩ hl.1 rfl (nle rfl) dX11_takesTerm_144 (fun hr_10 H locs w_M_7 => ?_)
            refine g_if_ne (tgt := 156) X hr_10 dX11_takesTerm_147 (by decide) (fun cd_10 => ?_) (fun cd_10 => ?_)
            · replace hf := ite_f cd_10 hf
              refine lv_aload_n hx hb dX11_takesTerm_156 rfl (lv_at hl 0 rfl) ?_
              refine g_getr X w_M_7 fg_X11_81 KD_80 FR_80_29 dX11_takesTerm_157 ?_
              refine lv_iload_n hx hb dX11_takesTerm_160 rfl (lv_at hl 1 rfl) ?_
              refine lv_aload_n hx hb dX11_takesTerm_161 rfl (lv_at hl 0 rfl) ?_
              refine g_bipush X dX11_takesTerm_162 (by decide) ?_
              obtain ⟨r_11, hc, hf⟩ := obn_some hf
              refine g_cvi (As := [.int (i2 60)]) (rest := [.int (i2 p1), .ref (ad 103)]) X w_M_7 (k_X11_isSign X.2.2.1 60 (inL rfl) w_M_7.2.2 hc) lk_X11_265 cl_11 KD_80 ⟨rfl, rfl⟩ ⟨nle rfl, nle rfl⟩ ⟨nle rfl, nle rfl⟩ hl.1 rfl (nle rfl) dX11_takesTerm_164 (fun hr_11 H locs w_M_7 => ?_)
              refine g_if_eq (tgt := 174) X hr_11 dX11_takesTerm_167 (by decide) (fun cd_11 => ?_) (fun cd_11 => ?_)
              · replace hf := ite_t cd_11 hf
                refine lv_aload_n hx hb dX11_takesTerm_174 rfl (lv_at hl 0 rfl) ?_
                refine g_bipush X dX11_takesTerm_175 (by decide) ?_
                obtain ⟨r_12, hc, hf⟩ := obn_some hf
                refine g_cvi (As := [.int (i2 61)]) (rest := [.int (i2 p1), .ref (ad 103)]) X w_M_7 (k_X11_isSign X.2.2.1 61 (inL rfl) w_M_7.2.2 hc) lk_X11_265 cl_11 KD_80 ⟨rfl, rfl⟩ ⟨nle rfl, nle rfl⟩ ⟨nle rfl, nle rfl⟩ hl.1 rfl (nle rfl) dX11_takesTerm_177 (fun hr_12 H locs w_M_7 => ?_)
                refine g_if_eq (tgt := 187) X hr_12 dX11_takesTerm_180 (by decide) (fun cd_12 => ?_) (fun cd_12 => ?_)
                · replace hf := ite_t cd_12 hf
                  refine g_iconst X dX11_takesTerm_187 ?_
                  exact b_X11_takesTerm_j188 X  HR p1 hp1 2 (inL rfl) p1 hp1 M_7 hf hl w_M_7
                · replace hf := ite_f cd_12 hf
                  refine g_iconst X dX11_takesTerm_183 ?_
                  refine lv_goto (tgt := 188) hx hb dX11_takesTerm_184 (by decide) ?_
                  exact b_X11_takesTerm_j188 X  HR p1 hp1 1 (inL rfl) p1 hp1 M_7 hf hl w_M_7
              · replace hf := ite_f cd_11 hf
                refine g_iconst X dX11_takesTerm_170 ?_
                refine lv_goto (tgt := 188) hx hb dX11_takesTerm_171 (by decide) ?_
                exact b_X11_takesTerm_j188 X  HR p1 hp1 0 (inL rfl) p1 hp1 M_7 hf hl w_M_7
            · replace hf := ite_t cd_10 hf
              refine lv_aload_n hx hb dX11_takesTerm_150 rfl (lv_at hl 0 rfl) ?_
              refine g_iconst X dX11_takesTerm_151 ?_
              obtain ⟨r_13, M_8, hc, hf⟩ := bnd_some hf
              refine g_cvi (As := [.int (i2 1)]) (rest := []) X w_M_7 (k_X11_wrong X.2.2.1 1 (inL rfl) w_M_7.2.2 hc) lk_X11_259 cl_11 KD_80 ⟨rfl, rfl⟩ ⟨nle rfl, nle rfl⟩ ⟨nle rfl, nle rfl⟩ hl.1 rfl (nle rfl) dX11_takesTerm_152 (fun hr_13 H locs w_M_8 => ?_)
              obtain ⟨hz_2, hf⟩ := gd_some hf
              exact HR r_13 M_8 _ _ _ _ (Option.some.inj hf).symm hz_2 w_M_8 dX11_takesTerm_155
      · replace hf := ite_t cd_3 hf
        refine lv_aload_n hx hb dX11_takesTerm_113 rfl (lv_at hl 0 rfl) ?_
        refine g_iconst X dX11_takesTerm_114 ?_
        obtain ⟨r_14, M_9, hc, hf⟩ := bnd_some hf
        refine g_cvi (As := [.int (i2 1)]) (rest := []) X w_M_6 (k_X11_wrong X.2.2.1 1 (inL rfl) w_M_6.2.2 hc) lk_X11_259 cl_11 KD_80 ⟨rfl, rfl⟩ ⟨nle rfl, nle rfl⟩ ⟨nle rfl, nle rfl⟩ hl.1 rfl (nle rfl) dX11_takesTerm_115 (fun hr_14 H locs w_M_9 => ?_)
        obtain ⟨hz_3, hf⟩ := gd_some hf
        exact HR r_14 M_9 _ _ _ _ (Option.some.inj hf).symm hz_3 w_M_9 dX11_takesTerm_118
    · replace hf := ite_f cd_2 hf
      refine lv_aload_n hx hb dX11_takesTerm_36 rfl (lv_at hl 0 rfl) ?_
      obtain ⟨M_10, hc, hf⟩ := obn_some hf
      refine g_cvv (As := []) (rest := []) X w_M_4 (k_X11_next X.2.2.1  w_M_4.2.2 hc) lk_X11_262 cl_11 KD_80 ⟨rfl, rfl⟩ ⟨nle rfl, nle rfl⟩ ⟨nle rfl, nle rfl⟩ hl.1 rfl (nle rfl) dX11_takesTerm_37 (fun H locs w_M_10 => ?_)
      refine lv_aload_n hx hb dX11_takesTerm_40 rfl (lv_at hl 0 rfl) ?_
      refine g_geti X w_M_10 fg_X11_223 KD_80 FR_80_38 dX11_takesTerm_41 ?_
      refine g_iconst X dX11_takesTerm_44 ?_
      refine g_icmp_eq (tgt := 54) X (w_M_10.2.2 _ _) (inL rfl) dX11_takesTerm_45 (by decide) (fun cd_13 => ?_) (fun cd_13 => ?_)
      · replace hf := ite_t cd_13 hf
        refine lv_aload_n hx hb dX11_takesTerm_54 rfl (lv_at hl 0 rfl) ?_
        refine g_geti X w_M_10 fg_X11_232 KD_80 FR_80_37 dX11_takesTerm_55 ?_
        refine g_bipush X dX11_takesTerm_58 (by decide) ?_
        refine g_icmp_le (tgt := 69) X (w_M_10.2.2 _ _) (inL rfl) dX11_takesTerm_60 (by decide) (fun cd_14 => ?_) (fun cd_14 => ?_)
        · replace hf := ite_t cd_14 hf
          refine lv_aload_n hx hb dX11_takesTerm_69 rfl (lv_at hl 0 rfl) ?_
          refine g_getr X w_M_10 fg_X11_78 KD_80 FR_80_28 dX11_takesTerm_70 ?_
          refine lv_iload_n hx hb dX11_takesTerm_73 rfl (lv_at hl 1 rfl) ?_
          refine g_bipush X dX11_takesTerm_74 (by decide) ?_
          obtain ⟨hg_5, hf⟩ := gd_some hf
          obtain ⟨M_11, eM_11, hf⟩ := lt_some hf
          refine g_iast X w_M_10 KD_102 hp1 hg_5 (inL rfl) dX11_takesTerm_76 (fun H locs w_M_11 => ?_)
          rw [← eM_11] at w_M_11
          refine lv_aload_n hx hb dX11_takesTerm_77 rfl (lv_at hl 0 rfl) ?_
          refine g_getr X w_M_11 fg_X11_84 KD_80 FR_80_30 dX11_takesTerm_78 ?_
          refine lv_iload_n hx hb dX11_takesTerm_81 rfl (lv_at hl 1 rfl) ?_
          refine lv_aload_n hx hb dX11_takesTerm_82 rfl (lv_at hl 0 rfl) ?_
          refine g_geti X w_M_11 fg_X11_232 KD_80 FR_80_37 dX11_takesTerm_83 ?_
          obtain ⟨hg_6, hf⟩ := gd_some hf
          obtain ⟨M_12, eM_12, hf⟩ := lt_some hf
          refine g_iast X w_M_11 KD_104 hp1 hg_6 (w_M_11.2.2 _ _) dX11_takesTerm_86 (fun H locs w_M_12 => ?_)
          rw [← eM_12] at w_M_12
          refine lv_aload_n hx hb dX11_takesTerm_87 rfl (lv_at hl 0 rfl) ?_
          obtain ⟨M_13, hc, hf⟩ := obn_some hf
          refine g_cvv (As := []) (rest := []) X w_M_12 (k_X11_next X.2.2.1  w_M_12.2.2 hc) lk_X11_262 cl_11 KD_80 ⟨rfl, rfl⟩ ⟨nle rfl, nle rfl⟩ ⟨nle rfl, nle rfl⟩ hl.1 rfl (nle rfl) dX11_takesTerm_88 (fun H locs w_M_13 => ?_)
          refine g_iconst X dX11_takesTerm_91 ?_
          exact HR 1 M_13 _ _ _ _ (Option.some.inj hf).symm (Or.inr rfl) w_M_13 dX11_takesTerm_92
        · replace hf := ite_f cd_14 hf
          refine lv_aload_n hx hb dX11_takesTerm_63 rfl (lv_at hl 0 rfl) ?_
          refine g_iconst X dX11_takesTerm_64 ?_
          obtain ⟨r_15, M_14, hc, hf⟩ := bnd_some hf
          refine g_cvi (As := [.int (i2 2)]) (rest := []) X w_M_10 (k_X11_wrong X.2.2.1 2 (inL rfl) w_M_10.2.2 hc) lk_X11_259 cl_11 KD_80 ⟨rfl, rfl⟩ ⟨nle rfl, nle rfl⟩ ⟨nle rfl, nle rfl⟩ hl.1 rfl (nle rfl) dX11_takesTerm_65 (fun hr_15 H locs w_M_14 => ?_)
          obtain ⟨hz_4, hf⟩ := gd_some hf
          exact HR r_15 M_14 _ _ _ _ (Option.some.inj hf).symm hz_4 w_M_14 dX11_takesTerm_68
      · replace hf := ite_f cd_13 hf
        refine lv_aload_n hx hb dX11_takesTerm_48 rfl (lv_at hl 0 rfl) ?_
        refine g_iconst X dX11_takesTerm_49 ?_
        obtain ⟨r_16, M_15, hc, hf⟩ := bnd_some hf
        refine g_cvi (As := [.int (i2 1)]) (rest := []) X w_M_10 (k_X11_wrong X.2.2.1 1 (inL rfl) w_M_10.2.2 hc) lk_X11_259 cl_11 KD_80 ⟨rfl, rfl⟩ ⟨nle rfl, nle rfl⟩ ⟨nle rfl, nle rfl⟩ hl.1 rfl (nle rfl) dX11_takesTerm_50 (fun hr_16 H locs w_M_15 => ?_)
        obtain ⟨hz_5, hf⟩ := gd_some hf
        exact HR r_16 M_15 _ _ _ _ (Option.some.inj hf).symm hz_5 w_M_15 dX11_takesTerm_53
  · replace hf := ite_f cd hf
    refine lv_aload_n hx hb dX11_takesTerm_22 rfl (lv_at hl 0 rfl) ?_
    obtain ⟨M_16, hc, hf⟩ := obn_some hf
    refine g_cvv (As := []) (rest := []) X w_M_3 (k_X11_next X.2.2.1  w_M_3.2.2 hc) lk_X11_262 cl_11 KD_80 ⟨rfl, rfl⟩ ⟨nle rfl, nle rfl⟩ ⟨nle rfl, nle rfl⟩ hl.1 rfl (nle rfl) dX11_takesTerm_23 (fun H locs w_M_16 => ?_)
    exact b_X11_takesTerm_j26 X  HR p1 hp1 M_16 hf hl w_M_16
set_option maxRecDepth 100000 in
set_option maxHeartbeats 4000000 in
theorem k_X11_takesTerm {l : Launch} {D : va_G} {aC : Nat → ClassId} {ad : Nat → Nat} {sg : SG} (hi : Inj ad) (p1 : Int) (hp1 : inR p1) {M : Mem} (hM : inM M) {r : Int} {M' : Mem} (hf : f_X11_takesTerm p1 M = some (r, M')) : MetI l D aC ad sg yX11_takesTerm cX11_takesTerm 2 (some .boolean) rm_X11_takesTerm 0 0 [.ref (ad 80), .int (i2 p1)] M r M' := by
  refine MetI.ofZ (by decide +kernel) (nle rfl) hi hM (fun p e s m args below meth c Q H0 ls X hl w hret => ?_)
  exact b_X11_takesTerm_0 X  (fun r1 M1 H locs pc ls eo hP w dg => by cases eo; exact hret H locs pc ls hP w dg) p1 hp1 M hf hl w
set_option maxRecDepth 100000 in
set_option maxHeartbeats 4000000 in
theorem b_X11_takesTerms_j46k9 (X : CX p s m args c cX11_takesTerms 4 RX11 D aC ad sg A H0) (v1 : Int) (hv1 : inR v1) {o : (Int × Mem) ⊕ ((Int × Mem) ⊕ (Int × Mem))} (HC : ∀ (y2 : Int) (M1 : Mem) (H : Heap) (locs : List Loc) (ls : Array Slot), o = .inl (y2, M1) → inR y2 → lv_has ls 4 [(0, .ref (ad 80)), (1, .int (i2 v1)), (2, .int (i2 y2))] → WS D aC ad A H0 M1 H locs → W p l e rm_X11_takesTerms s m args below meth c H locs 0 0 Q (F0 m 9 ls [])) (HE : ∀ (y2 : Int) (M1 : Mem) (H : Heap) (locs : List Loc) (ls : Array Slot), o = .inr (.inl (y2, M1)) → inR y2 → lv_has ls 4 [(0, .ref (ad 80)), (1, .int (i2 v1)), (2, .int (i2 y2))] → WS D aC ad A H0 M1 H locs → W p l e rm_X11_takesTerms s m args below meth c H locs 0 0 Q (F0 m 121 ls [])) (HR : ∀ (r : Int) (M1 : Mem) (H : Heap) (locs : List Loc) (pc : Nat) (ls : Array Slot), o = .inr (.inr (r, M1)) → isZ r → WS D aC ad A H0 M1 H locs → decode cX11_takesTerms pc = .ok (.ireturn, 1) → W p l e rm_X11_takesTerms s m args below meth c H locs 0 0 Q (F0 m pc ls [.int (i2 r)])) (v2 : Int) (hv2 : inR v2) (s0 : Int) (hs0 : inR s0) (M : Mem) (hf : f_X11_takesTerms_j46k9 v1 v2 s0 M = some o) {H : Heap} {locs : List Loc} {ls : Array Slot} (hl : lv_has ls 4 [(0, .ref (ad 80)), (1, .int (i2 v1)), (2, .int (i2 v2))]) (w : WS D aC ad A H0 M H locs) : W p l e rm_X11_takesTerms s m args below meth c H locs 0 0 Q (F0 m 46 ls [.int (i2 s0)]) := by
  have hx := X.1.1
  have hb := X.1.2.1
  unfold f_X11_takesTerms_j46k9 at hf
  refine g_istn (v := s0) (lv' := [(3, .int (i2 s0)), (0, .ref (ad 80)), (1, .int (i2 v1)), (2, .int (i2 v2))]) X rfl dX11_takesTerms_46 rfl hl (by decide) rfl (fun ls hl => ?_)
  refine lv_iload_n hx hb dX11_takesTerms_47 rfl (lv_at hl 0 rfl) ?_
  refine g_if_ne (tgt := 57) X hs0 dX11_takesTerms_48 (by decide) (fun cd => ?_) (fun cd => ?_)
  · replace hf := ite_f cd hf
    refine lv_aload_n hx hb dX11_takesTerms_57 rfl (lv_at hl 1 rfl) ?_
    refine g_getr X w fg_X11_72 KD_80 FR_80_26 dX11_takesTerms_58 ?_
    refine lv_iload_n hx hb dX11_takesTerms_61 rfl (lv_at hl 2 rfl) ?_
    obtain ⟨hg, hf⟩ := gd_some hf
    refine g_iald X w KD_100 hv1 hg dX11_takesTerms_62 ?_
    refine g_iconst X dX11_takesTerms_63 ?_
    refine g_icmp_ne (tgt := 73) X (w.2.2 _ _) (inL rfl) dX11_takesTerms_64 (by decide) (fun cd_2 => ?_) (fun cd_2 => ?_)
    · replace hf := ite_f cd_2 hf
      refine lv_aload_n hx hb dX11_takesTerms_73 rfl (lv_at hl 1 rfl) ?_
      refine g_iconst X dX11_takesTerms_74 ?_
      refine lv_iload_n hx hb dX11_takesTerms_75 rfl (lv_at hl 2 rfl) ?_
      refine g_imul X dX11_takesTerms_76 ?_
      refine lv_aload_n hx hb dX11_takesTerms_77 rfl (lv_at hl 1 rfl) ?_
      refine g_getr X w fg_X11_72 KD_80 FR_80_26 dX11_takesTerms_78 ?_
      refine lv_iload_n hx hb dX11_takesTerms_81 rfl (lv_at hl 2 rfl) ?_
      obtain ⟨hg_2, hf⟩ := gd_some hf
      refine g_iald X w KD_100 hv1 hg_2 dX11_takesTerms_82 ?_
      refine g_iadd X dX11_takesTerms_83 ?_
      obtain ⟨r, M_2, hc, hf⟩ := bnd_some hf
      refine g_cvi (As := [.int (i2 (wrap ((wrap (4 * v1)) + (M 100 v1.toNat))))]) (rest := []) X w (k_X11_takesTerm X.2.2.1 (wrap ((wrap (4 * v1)) + (M 100 v1.toNat))) (inR_wrap _) w.2.2 hc) lk_X11_275 cl_11 KD_80 ⟨rfl, rfl⟩ ⟨nle rfl, nle rfl⟩ ⟨nle rfl, nle rfl⟩ hl.1 rfl (nle rfl) dX11_takesTerms_84 (fun hr H locs w_M_2 => ?_)
      refine g_if_ne (tgt := 92) X hr dX11_takesTerms_87 (by decide) (fun cd_3 => ?_) (fun cd_3 => ?_)
      · replace hf := ite_f cd_3 hf
        refine lv_aload_n hx hb dX11_takesTerms_92 rfl (lv_at hl 1 rfl) ?_
        refine g_getr X w_M_2 fg_X11_72 KD_80 FR_80_26 dX11_takesTerms_93 ?_
        refine lv_iload_n hx hb dX11_takesTerms_96 rfl (lv_at hl 2 rfl) ?_
        refine lv_dup2_11 hx hb dX11_takesTerms_97 rfl rfl ?_
        obtain ⟨hg_3, hf⟩ := gd_some hf
        refine g_iald X w_M_2 KD_100 hv1 hg_3 dX11_takesTerms_98 ?_
        refine g_iconst X dX11_takesTerms_99 ?_
        refine g_iadd X dX11_takesTerms_100 ?_
        obtain ⟨hg_4, hf⟩ := gd_some hf
        obtain ⟨M_3, eM_3, hf⟩ := lt_some hf
        refine g_iast X w_M_2 KD_100 hv1 hg_4 (inR_wrap _) dX11_takesTerms_101 (fun H locs w_M_3 => ?_)
        rw [← eM_3] at w_M_3
        refine lv_aload_n hx hb dX11_takesTerms_102 rfl (lv_at hl 1 rfl) ?_
        refine g_ldcsw X (i := 23) (by decide) rfl rfl dX11_takesTerms_103 ?_
        obtain ⟨r_2, M_4, hc, hf⟩ := bnd_some hf
        refine g_cvi (As := [.ref (sg.1 23)]) (rest := []) X w_M_3 (k_X11_isWord X.2.2.1 23 (by decide) w_M_3.2.2 hc) lk_X11_252 cl_11 KD_80 ⟨rfl, rfl⟩ ⟨nle rfl, nle rfl⟩ ⟨nle rfl, nle rfl⟩ hl.1 rfl (nle rfl) dX11_takesTerms_106 (fun hr_2 H locs w_M_4 => ?_)
        refine g_istn (v := r_2) (lv' := [(2, .int (i2 r_2)), (3, .int (i2 s0)), (0, .ref (ad 80)), (1, .int (i2 v1))]) X rfl dX11_takesTerms_109 rfl hl (by decide) rfl (fun ls hl => ?_)
        refine lv_iload_n hx hb dX11_takesTerms_110 rfl (lv_at hl 0 rfl) ?_
        refine g_if_eq (tgt := 118) X hr_2 dX11_takesTerms_111 (by decide) (fun cd_4 => ?_) (fun cd_4 => ?_)
        · replace hf := ite_t cd_4 hf
          refine lv_goto (tgt := 9) hx hb dX11_takesTerms_118 (by decide) ?_
          exact HC r_2 M_4 _ _ _ (Option.some.inj hf).symm hr_2 (lv_sub hl [2, 3, 0] rfl) w_M_4
        · replace hf := ite_f cd_4 hf
          refine lv_aload_n hx hb dX11_takesTerms_114 rfl (lv_at hl 2 rfl) ?_
          obtain ⟨M_5, hc, hf⟩ := obn_some hf
          refine g_cvv (As := []) (rest := []) X w_M_4 (k_X11_next X.2.2.1  w_M_4.2.2 hc) lk_X11_262 cl_11 KD_80 ⟨rfl, rfl⟩ ⟨nle rfl, nle rfl⟩ ⟨nle rfl, nle rfl⟩ hl.1 rfl (nle rfl) dX11_takesTerms_115 (fun H locs w_M_5 => ?_)
          refine lv_goto (tgt := 9) hx hb dX11_takesTerms_118 (by decide) ?_
          exact HC r_2 M_5 _ _ _ (Option.some.inj hf).symm hr_2 (lv_sub hl [2, 3, 0] rfl) w_M_5
      · replace hf := ite_t cd_3 hf
        refine g_iconst X dX11_takesTerms_90 ?_
        exact HR 0 M_2 _ _ _ _ (Option.some.inj hf).symm (Or.inl rfl) w_M_2 dX11_takesTerms_91
    · replace hf := ite_t cd_2 hf
      refine lv_aload_n hx hb dX11_takesTerms_67 rfl (lv_at hl 1 rfl) ?_
      refine g_iconst X dX11_takesTerms_68 ?_
      obtain ⟨r_3, M_6, hc, hf⟩ := bnd_some hf
      refine g_cvi (As := [.int (i2 3)]) (rest := []) X w (k_X11_wrong X.2.2.1 3 (inL rfl) w.2.2 hc) lk_X11_259 cl_11 KD_80 ⟨rfl, rfl⟩ ⟨nle rfl, nle rfl⟩ ⟨nle rfl, nle rfl⟩ hl.1 rfl (nle rfl) dX11_takesTerms_69 (fun hr_3 H locs w_M_6 => ?_)
      obtain ⟨hz, hf⟩ := gd_some hf
      exact HR r_3 M_6 _ _ _ _ (Option.some.inj hf).symm hz w_M_6 dX11_takesTerms_72
  · replace hf := ite_t cd hf
    refine lv_aload_n hx hb dX11_takesTerms_51 rfl (lv_at hl 1 rfl) ?_
    refine g_iconst X dX11_takesTerms_52 ?_
    obtain ⟨r_4, M_7, hc, hf⟩ := bnd_some hf
    refine g_cvi (As := [.int (i2 1)]) (rest := []) X w (k_X11_wrong X.2.2.1 1 (inL rfl) w.2.2 hc) lk_X11_259 cl_11 KD_80 ⟨rfl, rfl⟩ ⟨nle rfl, nle rfl⟩ ⟨nle rfl, nle rfl⟩ hl.1 rfl (nle rfl) dX11_takesTerms_53 (fun hr_4 H locs w_M_7 => ?_)
    obtain ⟨hz_2, hf⟩ := gd_some hf
    exact HR r_4 M_7 _ _ _ _ (Option.some.inj hf).symm hz_2 w_M_7 dX11_takesTerms_56
set_option maxRecDepth 100000 in
set_option maxHeartbeats 4000000 in
theorem b_X11_takesTerms_s9 (X : CX p s m args c cX11_takesTerms 4 RX11 D aC ad sg A H0) (v1 : Int) (hv1 : inR v1) {o : (Int × Mem) ⊕ ((Int × Mem) ⊕ (Int × Mem))} (HC : ∀ (y2 : Int) (M1 : Mem) (H : Heap) (locs : List Loc) (ls : Array Slot), o = .inl (y2, M1) → inR y2 → lv_has ls 4 [(0, .ref (ad 80)), (1, .int (i2 v1)), (2, .int (i2 y2))] → WS D aC ad A H0 M1 H locs → W p l e rm_X11_takesTerms s m args below meth c H locs 0 0 Q (F0 m 9 ls [])) (HE : ∀ (y2 : Int) (M1 : Mem) (H : Heap) (locs : List Loc) (ls : Array Slot), o = .inr (.inl (y2, M1)) → inR y2 → lv_has ls 4 [(0, .ref (ad 80)), (1, .int (i2 v1)), (2, .int (i2 y2))] → WS D aC ad A H0 M1 H locs → W p l e rm_X11_takesTerms s m args below meth c H locs 0 0 Q (F0 m 121 ls [])) (HR : ∀ (r : Int) (M1 : Mem) (H : Heap) (locs : List Loc) (pc : Nat) (ls : Array Slot), o = .inr (.inr (r, M1)) → isZ r → WS D aC ad A H0 M1 H locs → decode cX11_takesTerms pc = .ok (.ireturn, 1) → W p l e rm_X11_takesTerms s m args below meth c H locs 0 0 Q (F0 m pc ls [.int (i2 r)])) (v2 : Int) (hv2 : inR v2) (M : Mem) (hf : f_X11_takesTerms_s9 v1 v2 M = some o) {H : Heap} {locs : List Loc} {ls : Array Slot} (hl : lv_has ls 4 [(0, .ref (ad 80)), (1, .int (i2 v1)), (2, .int (i2 v2))]) (w : WS D aC ad A H0 M H locs) : W p l e rm_X11_takesTerms s m args below meth c H locs 0 0 Q (F0 m 9 ls []) := by
  have hx := X.1.1
  have hb := X.1.2.1
  unfold f_X11_takesTerms_s9 at hf
  refine lv_iload_n hx hb dX11_takesTerms_9 rfl (lv_at hl 2 rfl) ?_
  refine g_if_eq (tgt := 121) X hv2 dX11_takesTerms_10 (by decide) (fun cd => ?_) (fun cd => ?_)
  · replace hf := ite_t cd hf
    exact HE v2 M _ _ _ (Option.some.inj hf).symm hv2 hl w
  · replace hf := ite_f cd hf
    refine lv_aload_n hx hb dX11_takesTerms_13 rfl (lv_at hl 0 rfl) ?_
    refine g_ldcsw X (i := 14) (by decide) rfl rfl dX11_takesTerms_14 ?_
    obtain ⟨r, M_2, hc, hf⟩ := bnd_some hf
    refine g_cvi (As := [.ref (sg.1 14)]) (rest := []) X w (k_X11_isWord X.2.2.1 14 (by decide) w.2.2 hc) lk_X11_252 cl_11 KD_80 ⟨rfl, rfl⟩ ⟨nle rfl, nle rfl⟩ ⟨nle rfl, nle rfl⟩ hl.1 rfl (nle rfl) dX11_takesTerms_17 (fun hr H locs w_M_2 => ?_)
    refine g_if_ne (tgt := 41) X hr dX11_takesTerms_20 (by decide) (fun cd_2 => ?_) (fun cd_2 => ?_)
    · replace hf := ite_f cd_2 hf
      refine g_iconst X dX11_takesTerms_41 ?_
      refine lv_goto (tgt := 46) hx hb dX11_takesTerms_42 (by decide) ?_
      exact b_X11_takesTerms_j46k9 X v1 hv1 HC HE HR v2 hv2 1 (inL rfl) M_2 hf hl w_M_2
    · replace hf := ite_t cd_2 hf
      refine lv_aload_n hx hb dX11_takesTerms_23 rfl (lv_at hl 0 rfl) ?_
      refine g_ldcsw X (i := 15) (by decide) rfl rfl dX11_takesTerms_24 ?_
      obtain ⟨r_2, M_3, hc, hf⟩ := bnd_some hf
      refine g_cvi (As := [.ref (sg.1 15)]) (rest := []) X w_M_2 (k_X11_isWord X.2.2.1 15 (by decide) w_M_2.2.2 hc) lk_X11_252 cl_11 KD_80 ⟨rfl, rfl⟩ ⟨nle rfl, nle rfl⟩ ⟨nle rfl, nle rfl⟩ hl.1 rfl (nle rfl) dX11_takesTerms_27 (fun hr_2 H locs w_M_3 => ?_)
      refine g_if_ne (tgt := 41) X hr_2 dX11_takesTerms_30 (by decide) (fun cd_3 => ?_) (fun cd_3 => ?_)
      · replace hf := ite_f cd_3 hf
        refine g_iconst X dX11_takesTerms_41 ?_
        refine lv_goto (tgt := 46) hx hb dX11_takesTerms_42 (by decide) ?_
        exact b_X11_takesTerms_j46k9 X v1 hv1 HC HE HR v2 hv2 1 (inL rfl) M_3 hf hl w_M_3
      · replace hf := ite_t cd_3 hf
        refine lv_aload_n hx hb dX11_takesTerms_33 rfl (lv_at hl 0 rfl) ?_
        obtain ⟨r_3, M_4, hc, hf⟩ := bnd_some hf
        refine g_cvi (As := []) (rest := []) X w_M_3 (k_X11_factHere X.2.2.1  w_M_3.2.2 hc) lk_X11_272 cl_11 KD_80 ⟨rfl, rfl⟩ ⟨nle rfl, nle rfl⟩ ⟨nle rfl, nle rfl⟩ hl.1 rfl (nle rfl) dX11_takesTerms_34 (fun hr_3 H locs w_M_4 => ?_)
        refine g_iconst X dX11_takesTerms_37 ?_
        refine g_icmp_eq (tgt := 45) X hr_3 (inL rfl) dX11_takesTerms_38 (by decide) (fun cd_4 => ?_) (fun cd_4 => ?_)
        · replace hf := ite_t cd_4 hf
          refine g_iconst X dX11_takesTerms_45 ?_
          exact b_X11_takesTerms_j46k9 X v1 hv1 HC HE HR v2 hv2 0 (inL rfl) M_4 hf hl w_M_4
        · replace hf := ite_f cd_4 hf
          refine g_iconst X dX11_takesTerms_41 ?_
          refine lv_goto (tgt := 46) hx hb dX11_takesTerms_42 (by decide) ?_
          exact b_X11_takesTerms_j46k9 X v1 hv1 HC HE HR v2 hv2 1 (inL rfl) M_4 hf hl w_M_4
set_option maxRecDepth 100000 in
set_option maxHeartbeats 4000000 in
theorem l_X11_takesTerms_9 (X : CX p s m args c cX11_takesTerms 4 RX11 D aC ad sg A H0) (v1 : Int) (hv1 : inR v1) {out : (Int × Mem) ⊕ (Int × Mem)} (HE : ∀ (y2 : Int) (M1 : Mem) (H : Heap) (locs : List Loc) (ls : Array Slot), out = .inl (y2, M1) → inR y2 → lv_has ls 4 [(0, .ref (ad 80)), (1, .int (i2 v1)), (2, .int (i2 y2))] → WS D aC ad A H0 M1 H locs → W p l e rm_X11_takesTerms s m args below meth c H locs 0 0 Q (F0 m 121 ls [])) (HR : ∀ (r : Int) (M1 : Mem) (H : Heap) (locs : List Loc) (pc : Nat) (ls : Array Slot), out = .inr (r, M1) → isZ r → WS D aC ad A H0 M1 H locs → decode cX11_takesTerms pc = .ok (.ireturn, 1) → W p l e rm_X11_takesTerms s m args below meth c H locs 0 0 Q (F0 m pc ls [.int (i2 r)])) : ∀ (n : Nat) (v2 : Int) (M : Mem), whl (fun s => f_X11_takesTerms_s9 v1 s.1 s.2) n (v2, M) = some out → inR v2 → ∀ {H : Heap} {locs : List Loc} {ls : Array Slot}, lv_has ls 4 [(0, .ref (ad 80)), (1, .int (i2 v1)), (2, .int (i2 v2))] → WS D aC ad A H0 M H locs → W p l e rm_X11_takesTerms s m args below meth c H locs 0 0 Q (F0 m 9 ls []) := by
  intro n
  induction n with
  | zero => intro v2 M hf; exact (whl_zero hf).elim
  | succ n ih =>
    intro v2 M hf hv2 H locs ls hl w
    obtain ⟨o, hf, hk1, hk2⟩ := whl_step hf
    exact b_X11_takesTerms_s9 X v1 hv1 (fun y2 M1 H locs ls eo hy2 hl w => ih y2 M1 (hk1 _ eo) hy2 hl w) (fun y2 M1 H locs ls eo hy2 hl w => HE y2 M1 H locs ls (hk2 _ eo).symm hy2 hl w) (fun r M1 H locs pc ls eo hP w dg => HR r M1 H locs pc ls (hk2 _ eo).symm hP w dg) v2 hv2 M hf hl w
set_option maxRecDepth 100000 in
set_option maxHeartbeats 4000000 in
theorem b_X11_takesTerms_j121 (X : CX p s m args c cX11_takesTerms 4 RX11 D aC ad sg A H0) {o : Int × Mem} (HR : ∀ (r : Int) (M1 : Mem) (H : Heap) (locs : List Loc) (pc : Nat) (ls : Array Slot), o = (r, M1) → isZ r → WS D aC ad A H0 M1 H locs → decode cX11_takesTerms pc = .ok (.ireturn, 1) → W p l e rm_X11_takesTerms s m args below meth c H locs 0 0 Q (F0 m pc ls [.int (i2 r)])) (M : Mem) (hf : f_X11_takesTerms_j121 M = some o) {H : Heap} {locs : List Loc} {ls : Array Slot} (hl : lv_has ls 4 []) (w : WS D aC ad A H0 M H locs) : W p l e rm_X11_takesTerms s m args below meth c H locs 0 0 Q (F0 m 121 ls []) := by
  have hx := X.1.1
  have hb := X.1.2.1
  unfold f_X11_takesTerms_j121 at hf
  refine g_iconst X dX11_takesTerms_121 ?_
  exact HR 1 M _ _ _ _ (Option.some.inj hf).symm (Or.inr rfl) w dX11_takesTerms_122
set_option maxRecDepth 100000 in
set_option maxHeartbeats 4000000 in
theorem b_X11_takesTerms_0 (X : CX p s m args c cX11_takesTerms 4 RX11 D aC ad sg A H0) {o : Int × Mem} (HR : ∀ (r : Int) (M1 : Mem) (H : Heap) (locs : List Loc) (pc : Nat) (ls : Array Slot), o = (r, M1) → isZ r → WS D aC ad A H0 M1 H locs → decode cX11_takesTerms pc = .ok (.ireturn, 1) → W p l e rm_X11_takesTerms s m args below meth c H locs 0 0 Q (F0 m pc ls [.int (i2 r)])) (p1 : Int) (hp1 : inR p1) (M : Mem) (hf : f_X11_takesTerms p1 M = some o) {H : Heap} {locs : List Loc} {ls : Array Slot} (hl : lv_has ls 4 [(0, .ref (ad 80)), (1, .int (i2 p1))]) (w : WS D aC ad A H0 M H locs) : W p l e rm_X11_takesTerms s m args below meth c H locs 0 0 Q (F0 m 0 ls []) := by
  have hx := X.1.1
  have hb := X.1.2.1
  unfold f_X11_takesTerms at hf
  refine lv_aload_n hx hb dX11_takesTerms_0 rfl (lv_at hl 0 rfl) ?_
  refine g_getr X w fg_X11_72 KD_80 FR_80_26 dX11_takesTerms_1 ?_
  refine lv_iload_n hx hb dX11_takesTerms_4 rfl (lv_at hl 1 rfl) ?_
  refine g_iconst X dX11_takesTerms_5 ?_
  obtain ⟨hg, hf⟩ := gd_some hf
  obtain ⟨M_2, eM_2, hf⟩ := lt_some hf
  refine g_iast X w KD_100 hp1 hg (inL rfl) dX11_takesTerms_6 (fun H locs w_M_2 => ?_)
  rw [← eM_2] at w_M_2
  refine g_iconst X dX11_takesTerms_7 ?_
  refine g_istn (v := 1) (lv' := [(2, .int (i2 1)), (0, .ref (ad 80)), (1, .int (i2 p1))]) X rfl dX11_takesTerms_8 rfl hl (by decide) rfl (fun ls hl => ?_)
  obtain ⟨q, hq, h1, h2⟩ := lpr_some hf
  exact l_X11_takesTerms_9 X p1 hp1 (out := q) (fun y2 M1 H locs ls eq hy2 hl w => b_X11_takesTerms_j121 X  HR M1 (h1 _ eq) (lv_sub hl [] rfl) w) (fun r M1 H locs pc ls eq hP w dg => HR r M1 H locs pc ls (Option.some.inj (h2 _ eq)).symm hP w dg) FU 1 M_2 hq (inL rfl) (lv_sub hl [1, 2, 0] rfl) w_M_2
set_option maxRecDepth 100000 in
set_option maxHeartbeats 4000000 in
theorem k_X11_takesTerms {l : Launch} {D : va_G} {aC : Nat → ClassId} {ad : Nat → Nat} {sg : SG} (hi : Inj ad) (p1 : Int) (hp1 : inR p1) {M : Mem} (hM : inM M) {r : Int} {M' : Mem} (hf : f_X11_takesTerms p1 M = some (r, M')) : MetI l D aC ad sg yX11_takesTerms cX11_takesTerms 4 (some .boolean) rm_X11_takesTerms 0 0 [.ref (ad 80), .int (i2 p1)] M r M' := by
  refine MetI.ofZ (by decide +kernel) (nle rfl) hi hM (fun p e s m args below meth c Q H0 ls X hl w hret => ?_)
  exact b_X11_takesTerms_0 X  (fun r1 M1 H locs pc ls eo hP w dg => by cases eo; exact hret H locs pc ls hP w dg) p1 hp1 M hf hl w
set_option maxRecDepth 100000 in
set_option maxHeartbeats 4000000 in
theorem b_X11_takesSign_0 (X : CX p s m args c cX11_takesSign 2 RX11 D aC ad sg A H0) {o : Int × Mem} (HR : ∀ (r : Int) (M1 : Mem) (H : Heap) (locs : List Loc) (pc : Nat) (ls : Array Slot), o = (r, M1) → isZ r → WS D aC ad A H0 M1 H locs → decode cX11_takesSign pc = .ok (.ireturn, 1) → W p l e rm_X11_takesSign s m args below meth c H locs 0 0 Q (F0 m pc ls [.int (i2 r)])) (p1 : Int) (hp1 : inR p1) (M : Mem) (hf : f_X11_takesSign p1 M = some o) {H : Heap} {locs : List Loc} {ls : Array Slot} (hl : lv_has ls 2 [(0, .ref (ad 80)), (1, .int (i2 p1))]) (w : WS D aC ad A H0 M H locs) : W p l e rm_X11_takesSign s m args below meth c H locs 0 0 Q (F0 m 0 ls []) := by
  have hx := X.1.1
  have hb := X.1.2.1
  unfold f_X11_takesSign at hf
  refine lv_aload_n hx hb dX11_takesSign_0 rfl (lv_at hl 0 rfl) ?_
  refine lv_iload_n hx hb dX11_takesSign_1 rfl (lv_at hl 1 rfl) ?_
  obtain ⟨r, hc, hf⟩ := obn_some hf
  refine g_cvi (As := [.int (i2 p1)]) (rest := []) X w (k_X11_isSign X.2.2.1 p1 hp1 w.2.2 hc) lk_X11_265 cl_11 KD_80 ⟨rfl, rfl⟩ ⟨nle rfl, nle rfl⟩ ⟨nle rfl, nle rfl⟩ hl.1 rfl (nle rfl) dX11_takesSign_2 (fun hr H locs w => ?_)
  refine g_if_ne (tgt := 14) X hr dX11_takesSign_5 (by decide) (fun cd => ?_) (fun cd => ?_)
  · replace hf := ite_f cd hf
    refine lv_aload_n hx hb dX11_takesSign_14 rfl (lv_at hl 0 rfl) ?_
    obtain ⟨M_2, hc, hf⟩ := obn_some hf
    refine g_cvv (As := []) (rest := []) X w (k_X11_next X.2.2.1  w.2.2 hc) lk_X11_262 cl_11 KD_80 ⟨rfl, rfl⟩ ⟨nle rfl, nle rfl⟩ ⟨nle rfl, nle rfl⟩ hl.1 rfl (nle rfl) dX11_takesSign_15 (fun H locs w_M_2 => ?_)
    refine g_iconst X dX11_takesSign_18 ?_
    exact HR 1 M_2 _ _ _ _ (Option.some.inj hf).symm (Or.inr rfl) w_M_2 dX11_takesSign_19
  · replace hf := ite_t cd hf
    refine lv_aload_n hx hb dX11_takesSign_8 rfl (lv_at hl 0 rfl) ?_
    refine g_iconst X dX11_takesSign_9 ?_
    obtain ⟨r_2, M_3, hc, hf⟩ := bnd_some hf
    refine g_cvi (As := [.int (i2 1)]) (rest := []) X w (k_X11_wrong X.2.2.1 1 (inL rfl) w.2.2 hc) lk_X11_259 cl_11 KD_80 ⟨rfl, rfl⟩ ⟨nle rfl, nle rfl⟩ ⟨nle rfl, nle rfl⟩ hl.1 rfl (nle rfl) dX11_takesSign_10 (fun hr_2 H locs w_M_3 => ?_)
    obtain ⟨hz, hf⟩ := gd_some hf
    exact HR r_2 M_3 _ _ _ _ (Option.some.inj hf).symm hz w_M_3 dX11_takesSign_13
set_option maxRecDepth 100000 in
set_option maxHeartbeats 4000000 in
theorem k_X11_takesSign {l : Launch} {D : va_G} {aC : Nat → ClassId} {ad : Nat → Nat} {sg : SG} (hi : Inj ad) (p1 : Int) (hp1 : inR p1) {M : Mem} (hM : inM M) {r : Int} {M' : Mem} (hf : f_X11_takesSign p1 M = some (r, M')) : MetI l D aC ad sg yX11_takesSign cX11_takesSign 2 (some .boolean) rm_X11_takesSign 0 0 [.ref (ad 80), .int (i2 p1)] M r M' := by
  refine MetI.ofZ (by decide +kernel) (nle rfl) hi hM (fun p e s m args below meth c Q H0 ls X hl w hret => ?_)
  exact b_X11_takesSign_0 X  (fun r1 M1 H locs pc ls eo hP w dg => by cases eo; exact hret H locs pc ls hP w dg) p1 hp1 M hf hl w
set_option maxRecDepth 100000 in
set_option maxHeartbeats 4000000 in
theorem b_X11_takesNumber_0 (X : CX p s m args c cX11_takesNumber 2 RX11 D aC ad sg A H0) {o : Int × Mem} (HR : ∀ (r : Int) (M1 : Mem) (H : Heap) (locs : List Loc) (pc : Nat) (ls : Array Slot), o = (r, M1) → isZ r → WS D aC ad A H0 M1 H locs → decode cX11_takesNumber pc = .ok (.ireturn, 1) → W p l e rm_X11_takesNumber s m args below meth c H locs 0 0 Q (F0 m pc ls [.int (i2 r)])) (p1 : Int) (hp1 : inR p1) (M : Mem) (hf : f_X11_takesNumber p1 M = some o) {H : Heap} {locs : List Loc} {ls : Array Slot} (hl : lv_has ls 2 [(0, .ref (ad 80)), (1, .int (i2 p1))]) (w : WS D aC ad A H0 M H locs) : W p l e rm_X11_takesNumber s m args below meth c H locs 0 0 Q (F0 m 0 ls []) := by
  have hx := X.1.1
  have hb := X.1.2.1
  unfold f_X11_takesNumber at hf
  refine lv_aload_n hx hb dX11_takesNumber_0 rfl (lv_at hl 0 rfl) ?_
  refine g_geti X w fg_X11_223 KD_80 FR_80_38 dX11_takesNumber_1 ?_
  refine g_iconst X dX11_takesNumber_4 ?_
  refine g_icmp_eq (tgt := 14) X (w.2.2 _ _) (inL rfl) dX11_takesNumber_5 (by decide) (fun cd => ?_) (fun cd => ?_)
  · replace hf := ite_t cd hf
    refine lv_aload_n hx hb dX11_takesNumber_14 rfl (lv_at hl 0 rfl) ?_
    refine g_getr X w fg_X11_66 KD_80 FR_80_24 dX11_takesNumber_15 ?_
    refine lv_iload_n hx hb dX11_takesNumber_18 rfl (lv_at hl 1 rfl) ?_
    refine lv_aload_n hx hb dX11_takesNumber_19 rfl (lv_at hl 0 rfl) ?_
    refine g_geti X w fg_X11_232 KD_80 FR_80_37 dX11_takesNumber_20 ?_
    obtain ⟨hg, hf⟩ := gd_some hf
    obtain ⟨M_2, eM_2, hf⟩ := lt_some hf
    refine g_iast X w KD_98 hp1 hg (w.2.2 _ _) dX11_takesNumber_23 (fun H locs w_M_2 => ?_)
    rw [← eM_2] at w_M_2
    refine lv_aload_n hx hb dX11_takesNumber_24 rfl (lv_at hl 0 rfl) ?_
    obtain ⟨M_3, hc, hf⟩ := obn_some hf
    refine g_cvv (As := []) (rest := []) X w_M_2 (k_X11_next X.2.2.1  w_M_2.2.2 hc) lk_X11_262 cl_11 KD_80 ⟨rfl, rfl⟩ ⟨nle rfl, nle rfl⟩ ⟨nle rfl, nle rfl⟩ hl.1 rfl (nle rfl) dX11_takesNumber_25 (fun H locs w_M_3 => ?_)
    refine g_iconst X dX11_takesNumber_28 ?_
    exact HR 1 M_3 _ _ _ _ (Option.some.inj hf).symm (Or.inr rfl) w_M_3 dX11_takesNumber_29
  · replace hf := ite_f cd hf
    refine lv_aload_n hx hb dX11_takesNumber_8 rfl (lv_at hl 0 rfl) ?_
    refine g_iconst X dX11_takesNumber_9 ?_
    obtain ⟨r, M_4, hc, hf⟩ := bnd_some hf
    refine g_cvi (As := [.int (i2 1)]) (rest := []) X w (k_X11_wrong X.2.2.1 1 (inL rfl) w.2.2 hc) lk_X11_259 cl_11 KD_80 ⟨rfl, rfl⟩ ⟨nle rfl, nle rfl⟩ ⟨nle rfl, nle rfl⟩ hl.1 rfl (nle rfl) dX11_takesNumber_10 (fun hr H locs w_M_4 => ?_)
    obtain ⟨hz, hf⟩ := gd_some hf
    exact HR r M_4 _ _ _ _ (Option.some.inj hf).symm hz w_M_4 dX11_takesNumber_13
set_option maxRecDepth 100000 in
set_option maxHeartbeats 4000000 in
theorem k_X11_takesNumber {l : Launch} {D : va_G} {aC : Nat → ClassId} {ad : Nat → Nat} {sg : SG} (hi : Inj ad) (p1 : Int) (hp1 : inR p1) {M : Mem} (hM : inM M) {r : Int} {M' : Mem} (hf : f_X11_takesNumber p1 M = some (r, M')) : MetI l D aC ad sg yX11_takesNumber cX11_takesNumber 2 (some .boolean) rm_X11_takesNumber 0 0 [.ref (ad 80), .int (i2 p1)] M r M' := by
  refine MetI.ofZ (by decide +kernel) (nle rfl) hi hM (fun p e s m args below meth c Q H0 ls X hl w hret => ?_)
  exact b_X11_takesNumber_0 X  (fun r1 M1 H locs pc ls eo hP w dg => by cases eo; exact hret H locs pc ls hP w dg) p1 hp1 M hf hl w
set_option maxRecDepth 100000 in
set_option maxHeartbeats 4000000 in
theorem b_X11_isBody_j323 (X : CX p s m args c cX11_isBody 3 RX11 D aC ad sg A H0) {o : Int × Mem} (HR : ∀ (r : Int) (M1 : Mem) (H : Heap) (locs : List Loc) (pc : Nat) (ls : Array Slot), o = (r, M1) → isZ r → WS D aC ad A H0 M1 H locs → decode cX11_isBody pc = .ok (.ireturn, 1) → W p l e rm_X11_isBody s m args below meth c H locs 0 0 Q (F0 m pc ls [.int (i2 r)])) (v1 : Int) (hv1 : inR v1) (s0 : Int) (hs0 : inR s0) (s1 : Int) (hs1 : inR s1) (M : Mem) (hf : f_X11_isBody_j323 v1 s0 s1 M = some o) {H : Heap} {locs : List Loc} {ls : Array Slot} (hl : lv_has ls 3 [(0, .ref (ad 80)), (1, .int (i2 v1))]) (w : WS D aC ad A H0 M H locs) : W p l e rm_X11_isBody s m args below meth c H locs 0 0 Q (F0 m 323 ls [.int (i2 s0), .int (i2 s1), .ref (ad 98)]) := by
  have hx := X.1.1
  have hb := X.1.2.1
  unfold f_X11_isBody_j323 at hf
  obtain ⟨hg, hf⟩ := gd_some hf
  obtain ⟨M_2, eM_2, hf⟩ := lt_some hf
  refine g_iast X w KD_98 hs1 hg hs0 dX11_isBody_323 (fun H locs w_M_2 => ?_)
  rw [← eM_2] at w_M_2
  refine lv_aload_n hx hb dX11_isBody_324 rfl (lv_at hl 0 rfl) ?_
  refine g_getr X w_M_2 fg_X11_66 KD_80 FR_80_24 dX11_isBody_325 ?_
  refine lv_iload_n hx hb dX11_isBody_328 rfl (lv_at hl 1 rfl) ?_
  obtain ⟨hg_2, hf⟩ := gd_some hf
  refine g_iald X w_M_2 KD_98 hv1 hg_2 dX11_isBody_329 ?_
  refine g_iconst X dX11_isBody_330 ?_
  refine g_icmp_ne (tgt := 340) X (w_M_2.2.2 _ _) (inL rfl) dX11_isBody_331 (by decide) (fun cd => ?_) (fun cd => ?_)
  · replace hf := ite_f cd hf
    refine lv_aload_n hx hb dX11_isBody_340 rfl (lv_at hl 0 rfl) ?_
    obtain ⟨M_3, hc, hf⟩ := obn_some hf
    refine g_cvv (As := []) (rest := []) X w_M_2 (k_X11_next X.2.2.1  w_M_2.2.2 hc) lk_X11_262 cl_11 KD_80 ⟨rfl, rfl⟩ ⟨nle rfl, nle rfl⟩ ⟨nle rfl, nle rfl⟩ hl.1 rfl (nle rfl) dX11_isBody_341 (fun H locs w_M_3 => ?_)
    refine g_iconst X dX11_isBody_344 ?_
    exact HR 1 M_3 _ _ _ _ (Option.some.inj hf).symm (Or.inr rfl) w_M_3 dX11_isBody_345
  · replace hf := ite_t cd hf
    refine lv_aload_n hx hb dX11_isBody_334 rfl (lv_at hl 0 rfl) ?_
    refine g_iconst X dX11_isBody_335 ?_
    obtain ⟨r, M_4, hc, hf⟩ := bnd_some hf
    refine g_cvi (As := [.int (i2 1)]) (rest := []) X w_M_2 (k_X11_wrong X.2.2.1 1 (inL rfl) w_M_2.2.2 hc) lk_X11_259 cl_11 KD_80 ⟨rfl, rfl⟩ ⟨nle rfl, nle rfl⟩ ⟨nle rfl, nle rfl⟩ hl.1 rfl (nle rfl) dX11_isBody_336 (fun hr H locs w_M_4 => ?_)
    obtain ⟨hz, hf⟩ := gd_some hf
    exact HR r M_4 _ _ _ _ (Option.some.inj hf).symm hz w_M_4 dX11_isBody_339
set_option maxRecDepth 100000 in
set_option maxHeartbeats 4000000 in
theorem b_X11_isBody_0 (X : CX p s m args c cX11_isBody 3 RX11 D aC ad sg A H0) {o : Int × Mem} (HR : ∀ (r : Int) (M1 : Mem) (H : Heap) (locs : List Loc) (pc : Nat) (ls : Array Slot), o = (r, M1) → isZ r → WS D aC ad A H0 M1 H locs → decode cX11_isBody pc = .ok (.ireturn, 1) → W p l e rm_X11_isBody s m args below meth c H locs 0 0 Q (F0 m pc ls [.int (i2 r)])) (p1 : Int) (hp1 : inR p1) (p2 : Int) (hp2 : inR p2) (M : Mem) (hf : f_X11_isBody p1 p2 M = some o) {H : Heap} {locs : List Loc} {ls : Array Slot} (hl : lv_has ls 3 [(0, .ref (ad 80)), (1, .int (i2 p1)), (2, .int (i2 p2))]) (w : WS D aC ad A H0 M H locs) : W p l e rm_X11_isBody s m args below meth c H locs 0 0 Q (F0 m 0 ls []) := by
  have hx := X.1.1
  have hb := X.1.2.1
  unfold f_X11_isBody at hf
  refine lv_iload_n hx hb dX11_isBody_0 rfl (lv_at hl 2 rfl) ?_
  by_cases cd_4 : p2 < 0 ∨ 7 < p2
  · replace hf := ite_t cd_4 hf
    refine g_tout (tgt := 276) X hp2 cd_4 dX11_isBody_1 (by decide) ?_
    refine lv_aload_n hx hb dX11_isBody_276 rfl (lv_at hl 0 rfl) ?_
    refine g_getr X w fg_X11_66 KD_80 FR_80_24 dX11_isBody_277 ?_
    refine lv_iload_n hx hb dX11_isBody_280 rfl (lv_at hl 1 rfl) ?_
    refine lv_aload_n hx hb dX11_isBody_281 rfl (lv_at hl 0 rfl) ?_
    refine g_ldcs X (i := 10) (by decide) rfl rfl dX11_isBody_282 ?_
    obtain ⟨r, M_2, hc, hf⟩ := bnd_some hf
    refine g_cvi (As := [.ref (sg.1 10)]) (rest := [.int (i2 p1), .ref (ad 98)]) X w (k_X11_isWord X.2.2.1 10 (by decide) w.2.2 hc) lk_X11_252 cl_11 KD_80 ⟨rfl, rfl⟩ ⟨nle rfl, nle rfl⟩ ⟨nle rfl, nle rfl⟩ hl.1 rfl (nle rfl) dX11_isBody_284 (fun hr H locs w_M_2 => ?_)
    refine g_if_eq (tgt := 294) X hr dX11_isBody_287 (by decide) (fun cd => ?_) (fun cd => ?_)
    · replace hf := ite_t cd hf
      refine lv_aload_n hx hb dX11_isBody_294 rfl (lv_at hl 0 rfl) ?_
      refine g_ldcsw X (i := 25) (by decide) rfl rfl dX11_isBody_295 ?_
      obtain ⟨r_2, M_3, hc, hf⟩ := bnd_some hf
      refine g_cvi (As := [.ref (sg.1 25)]) (rest := [.int (i2 p1), .ref (ad 98)]) X w_M_2 (k_X11_isWord X.2.2.1 25 (by decide) w_M_2.2.2 hc) lk_X11_252 cl_11 KD_80 ⟨rfl, rfl⟩ ⟨nle rfl, nle rfl⟩ ⟨nle rfl, nle rfl⟩ hl.1 rfl (nle rfl) dX11_isBody_298 (fun hr_2 H locs w_M_3 => ?_)
      refine g_if_eq (tgt := 308) X hr_2 dX11_isBody_301 (by decide) (fun cd_2 => ?_) (fun cd_2 => ?_)
      · replace hf := ite_t cd_2 hf
        refine lv_aload_n hx hb dX11_isBody_308 rfl (lv_at hl 0 rfl) ?_
        refine g_ldcsw X (i := 26) (by decide) rfl rfl dX11_isBody_309 ?_
        obtain ⟨r_3, M_4, hc, hf⟩ := bnd_some hf
        refine g_cvi (As := [.ref (sg.1 26)]) (rest := [.int (i2 p1), .ref (ad 98)]) X w_M_3 (k_X11_isWord X.2.2.1 26 (by decide) w_M_3.2.2 hc) lk_X11_252 cl_11 KD_80 ⟨rfl, rfl⟩ ⟨nle rfl, nle rfl⟩ ⟨nle rfl, nle rfl⟩ hl.1 rfl (nle rfl) dX11_isBody_312 (fun hr_3 H locs w_M_4 => ?_)
        refine g_if_eq (tgt := 322) X hr_3 dX11_isBody_315 (by decide) (fun cd_3 => ?_) (fun cd_3 => ?_)
        · replace hf := ite_t cd_3 hf
          refine g_iconst X dX11_isBody_322 ?_
          exact b_X11_isBody_j323 X  HR p1 hp1 (-1) (inL rfl) p1 hp1 M_4 hf (lv_sub hl [0, 1] rfl) w_M_4
        · replace hf := ite_f cd_3 hf
          refine g_iconst X dX11_isBody_318 ?_
          refine lv_goto (tgt := 323) hx hb dX11_isBody_319 (by decide) ?_
          exact b_X11_isBody_j323 X  HR p1 hp1 0 (inL rfl) p1 hp1 M_4 hf (lv_sub hl [0, 1] rfl) w_M_4
      · replace hf := ite_f cd_2 hf
        refine g_iconst X dX11_isBody_304 ?_
        refine lv_goto (tgt := 323) hx hb dX11_isBody_305 (by decide) ?_
        exact b_X11_isBody_j323 X  HR p1 hp1 2 (inL rfl) p1 hp1 M_3 hf (lv_sub hl [0, 1] rfl) w_M_3
    · replace hf := ite_f cd hf
      refine g_iconst X dX11_isBody_290 ?_
      refine lv_goto (tgt := 323) hx hb dX11_isBody_291 (by decide) ?_
      exact b_X11_isBody_j323 X  HR p1 hp1 1 (inL rfl) p1 hp1 M_2 hf (lv_sub hl [0, 1] rfl) w_M_2
  · replace hf := ite_f cd_4 hf
    by_cases cd_5 : p2 = 0
    · replace hf := ite_t cd_5 hf
      refine g_tin (tgt := 48) (k := 0) (off := 47) X cd_5 hp2 (by decide) (by decide) (by rfl) dX11_isBody_1 (by decide) ?_
      refine lv_aload_n hx hb dX11_isBody_48 rfl (lv_at hl 0 rfl) ?_
      refine g_getr X w fg_X11_72 KD_80 FR_80_26 dX11_isBody_49 ?_
      refine g_iconst X dX11_isBody_52 ?_
      refine lv_iload_n hx hb dX11_isBody_53 rfl (lv_at hl 1 rfl) ?_
      refine g_imul X dX11_isBody_54 ?_
      refine g_iconst X dX11_isBody_55 ?_
      obtain ⟨hg, hf⟩ := gd_some hf
      obtain ⟨M_5, eM_5, hf⟩ := lt_some hf
      refine g_iast X w KD_100 (inR_wrap _) hg (inL rfl) dX11_isBody_56 (fun H locs w_M_5 => ?_)
      rw [← eM_5] at w_M_5
      refine lv_aload_n hx hb dX11_isBody_57 rfl (lv_at hl 0 rfl) ?_
      refine g_bipush X dX11_isBody_58 (by decide) ?_
      obtain ⟨r_4, hc, hf⟩ := obn_some hf
      refine g_cvi (As := [.int (i2 58)]) (rest := []) X w_M_5 (k_X11_isSign X.2.2.1 58 (inL rfl) w_M_5.2.2 hc) lk_X11_265 cl_11 KD_80 ⟨rfl, rfl⟩ ⟨nle rfl, nle rfl⟩ ⟨nle rfl, nle rfl⟩ hl.1 rfl (nle rfl) dX11_isBody_60 (fun hr_4 H locs w_M_5 => ?_)
      refine g_if_ne (tgt := 78) X hr_4 dX11_isBody_63 (by decide) (fun cd_6 => ?_) (fun cd_6 => ?_)
      · replace hf := ite_f cd_6 hf
        refine lv_aload_n hx hb dX11_isBody_78 rfl (lv_at hl 0 rfl) ?_
        refine g_bipush X dX11_isBody_79 (by decide) ?_
        obtain ⟨r_5, M_6, hc, hf⟩ := bnd_some hf
        refine g_cvi (As := [.int (i2 58)]) (rest := []) X w_M_5 (k_X11_takesSign X.2.2.1 58 (inL rfl) w_M_5.2.2 hc) lk_X11_289 cl_11 KD_80 ⟨rfl, rfl⟩ ⟨nle rfl, nle rfl⟩ ⟨nle rfl, nle rfl⟩ hl.1 rfl (nle rfl) dX11_isBody_81 (fun hr_5 H locs w_M_6 => ?_)
        refine g_if_eq (tgt := 99) X hr_5 dX11_isBody_84 (by decide) (fun cd_7 => ?_) (fun cd_7 => ?_)
        · replace hf := ite_t cd_7 hf
          refine g_iconst X dX11_isBody_99 ?_
          exact HR 0 M_6 _ _ _ _ (Option.some.inj hf).symm (Or.inl rfl) w_M_6 dX11_isBody_100
        · replace hf := ite_f cd_7 hf
          refine lv_aload_n hx hb dX11_isBody_87 rfl (lv_at hl 0 rfl) ?_
          refine lv_iload_n hx hb dX11_isBody_88 rfl (lv_at hl 1 rfl) ?_
          obtain ⟨r_6, M_7, hc, hf⟩ := bnd_some hf
          refine g_cvi (As := [.int (i2 p1)]) (rest := []) X w_M_6 (k_X11_takesNumber X.2.2.1 p1 hp1 w_M_6.2.2 hc) lk_X11_295 cl_11 KD_80 ⟨rfl, rfl⟩ ⟨nle rfl, nle rfl⟩ ⟨nle rfl, nle rfl⟩ hl.1 rfl (nle rfl) dX11_isBody_89 (fun hr_6 H locs w_M_7 => ?_)
          refine g_if_eq (tgt := 99) X hr_6 dX11_isBody_92 (by decide) (fun cd_8 => ?_) (fun cd_8 => ?_)
          · replace hf := ite_t cd_8 hf
            refine g_iconst X dX11_isBody_99 ?_
            exact HR 0 M_7 _ _ _ _ (Option.some.inj hf).symm (Or.inl rfl) w_M_7 dX11_isBody_100
          · replace hf := ite_f cd_8 hf
            refine g_iconst X dX11_isBody_95 ?_
            refine lv_goto (tgt := 100) hx hb dX11_isBody_96 (by decide) ?_
            exact HR 1 M_7 _ _ _ _ (Option.some.inj hf).symm (Or.inr rfl) w_M_7 dX11_isBody_100
      · replace hf := ite_t cd_6 hf
        refine lv_aload_n hx hb dX11_isBody_66 rfl (lv_at hl 0 rfl) ?_
        refine g_iconst X dX11_isBody_67 ?_
        refine lv_iload_n hx hb dX11_isBody_68 rfl (lv_at hl 1 rfl) ?_
        refine g_imul X dX11_isBody_69 ?_
        obtain ⟨r_7, M_8, hc, hf⟩ := bnd_some hf
        refine g_cvi (As := [.int (i2 (wrap (2 * p1)))]) (rest := []) X w_M_5 (k_X11_takesTerms X.2.2.1 (wrap (2 * p1)) (inR_wrap _) w_M_5.2.2 hc) lk_X11_292 cl_11 KD_80 ⟨rfl, rfl⟩ ⟨nle rfl, nle rfl⟩ ⟨nle rfl, nle rfl⟩ hl.1 rfl (nle rfl) dX11_isBody_70 (fun hr_7 H locs w_M_8 => ?_)
        refine g_if_ne (tgt := 78) X hr_7 dX11_isBody_73 (by decide) (fun cd_9 => ?_) (fun cd_9 => ?_)
        · replace hf := ite_f cd_9 hf
          refine lv_aload_n hx hb dX11_isBody_78 rfl (lv_at hl 0 rfl) ?_
          refine g_bipush X dX11_isBody_79 (by decide) ?_
          obtain ⟨r_8, M_9, hc, hf⟩ := bnd_some hf
          refine g_cvi (As := [.int (i2 58)]) (rest := []) X w_M_8 (k_X11_takesSign X.2.2.1 58 (inL rfl) w_M_8.2.2 hc) lk_X11_289 cl_11 KD_80 ⟨rfl, rfl⟩ ⟨nle rfl, nle rfl⟩ ⟨nle rfl, nle rfl⟩ hl.1 rfl (nle rfl) dX11_isBody_81 (fun hr_8 H locs w_M_9 => ?_)
          refine g_if_eq (tgt := 99) X hr_8 dX11_isBody_84 (by decide) (fun cd_10 => ?_) (fun cd_10 => ?_)
          · replace hf := ite_t cd_10 hf
            refine g_iconst X dX11_isBody_99 ?_
            exact HR 0 M_9 _ _ _ _ (Option.some.inj hf).symm (Or.inl rfl) w_M_9 dX11_isBody_100
          · replace hf := ite_f cd_10 hf
            refine lv_aload_n hx hb dX11_isBody_87 rfl (lv_at hl 0 rfl) ?_
            refine lv_iload_n hx hb dX11_isBody_88 rfl (lv_at hl 1 rfl) ?_
            obtain ⟨r_9, M_10, hc, hf⟩ := bnd_some hf
            refine g_cvi (As := [.int (i2 p1)]) (rest := []) X w_M_9 (k_X11_takesNumber X.2.2.1 p1 hp1 w_M_9.2.2 hc) lk_X11_295 cl_11 KD_80 ⟨rfl, rfl⟩ ⟨nle rfl, nle rfl⟩ ⟨nle rfl, nle rfl⟩ hl.1 rfl (nle rfl) dX11_isBody_89 (fun hr_9 H locs w_M_10 => ?_)
            refine g_if_eq (tgt := 99) X hr_9 dX11_isBody_92 (by decide) (fun cd_11 => ?_) (fun cd_11 => ?_)
            · replace hf := ite_t cd_11 hf
              refine g_iconst X dX11_isBody_99 ?_
              exact HR 0 M_10 _ _ _ _ (Option.some.inj hf).symm (Or.inl rfl) w_M_10 dX11_isBody_100
            · replace hf := ite_f cd_11 hf
              refine g_iconst X dX11_isBody_95 ?_
              refine lv_goto (tgt := 100) hx hb dX11_isBody_96 (by decide) ?_
              exact HR 1 M_10 _ _ _ _ (Option.some.inj hf).symm (Or.inr rfl) w_M_10 dX11_isBody_100
        · replace hf := ite_t cd_9 hf
          refine g_iconst X dX11_isBody_76 ?_
          exact HR 0 M_8 _ _ _ _ (Option.some.inj hf).symm (Or.inl rfl) w_M_8 dX11_isBody_77
    · replace hf := ite_f cd_5 hf
      by_cases cd_12 : p2 = 1
      · replace hf := ite_t cd_12 hf
        refine g_tin (tgt := 101) (k := 1) (off := 100) X cd_12 hp2 (by decide) (by decide) (by rfl) dX11_isBody_1 (by decide) ?_
        refine lv_aload_n hx hb dX11_isBody_101 rfl (lv_at hl 0 rfl) ?_
        refine g_getr X w fg_X11_69 KD_80 FR_80_25 dX11_isBody_102 ?_
        refine lv_iload_n hx hb dX11_isBody_105 rfl (lv_at hl 1 rfl) ?_
        refine lv_aload_n hx hb dX11_isBody_106 rfl (lv_at hl 0 rfl) ?_
        obtain ⟨r_10, M_11, hc, hf⟩ := bnd_some hf
        refine g_cvi (As := []) (rest := [.int (i2 p1), .ref (ad 99)]) X w (k_X11_factHere X.2.2.1  w.2.2 hc) lk_X11_272 cl_11 KD_80 ⟨rfl, rfl⟩ ⟨nle rfl, nle rfl⟩ ⟨nle rfl, nle rfl⟩ hl.1 rfl (nle rfl) dX11_isBody_107 (fun hr_10 H locs w_M_11 => ?_)
        obtain ⟨hg_2, hf⟩ := gd_some hf
        obtain ⟨M_12, eM_12, hf⟩ := lt_some hf
        refine g_iast X w_M_11 KD_99 hp1 hg_2 hr_10 dX11_isBody_110 (fun H locs w_M_12 => ?_)
        rw [← eM_12] at w_M_12
        refine lv_aload_n hx hb dX11_isBody_111 rfl (lv_at hl 0 rfl) ?_
        refine g_getr X w_M_12 fg_X11_69 KD_80 FR_80_25 dX11_isBody_112 ?_
        refine lv_iload_n hx hb dX11_isBody_115 rfl (lv_at hl 1 rfl) ?_
        obtain ⟨hg_3, hf⟩ := gd_some hf
        refine g_iald X w_M_12 KD_99 hp1 hg_3 dX11_isBody_116 ?_
        refine g_iconst X dX11_isBody_117 ?_
        refine g_icmp_ne (tgt := 127) X (w_M_12.2.2 _ _) (inL rfl) dX11_isBody_118 (by decide) (fun cd_13 => ?_) (fun cd_13 => ?_)
        · replace hf := ite_f cd_13 hf
          refine lv_aload_n hx hb dX11_isBody_127 rfl (lv_at hl 0 rfl) ?_
          obtain ⟨M_13, hc, hf⟩ := obn_some hf
          refine g_cvv (As := []) (rest := []) X w_M_12 (k_X11_next X.2.2.1  w_M_12.2.2 hc) lk_X11_262 cl_11 KD_80 ⟨rfl, rfl⟩ ⟨nle rfl, nle rfl⟩ ⟨nle rfl, nle rfl⟩ hl.1 rfl (nle rfl) dX11_isBody_128 (fun H locs w_M_13 => ?_)
          refine lv_aload_n hx hb dX11_isBody_131 rfl (lv_at hl 0 rfl) ?_
          refine g_bipush X dX11_isBody_132 (by decide) ?_
          obtain ⟨r_11, M_14, hc, hf⟩ := bnd_some hf
          refine g_cvi (As := [.int (i2 58)]) (rest := []) X w_M_13 (k_X11_takesSign X.2.2.1 58 (inL rfl) w_M_13.2.2 hc) lk_X11_289 cl_11 KD_80 ⟨rfl, rfl⟩ ⟨nle rfl, nle rfl⟩ ⟨nle rfl, nle rfl⟩ hl.1 rfl (nle rfl) dX11_isBody_134 (fun hr_11 H locs w_M_14 => ?_)
          refine g_if_eq (tgt := 152) X hr_11 dX11_isBody_137 (by decide) (fun cd_14 => ?_) (fun cd_14 => ?_)
          · replace hf := ite_t cd_14 hf
            refine g_iconst X dX11_isBody_152 ?_
            exact HR 0 M_14 _ _ _ _ (Option.some.inj hf).symm (Or.inl rfl) w_M_14 dX11_isBody_153
          · replace hf := ite_f cd_14 hf
            refine lv_aload_n hx hb dX11_isBody_140 rfl (lv_at hl 0 rfl) ?_
            refine lv_iload_n hx hb dX11_isBody_141 rfl (lv_at hl 1 rfl) ?_
            obtain ⟨r_12, M_15, hc, hf⟩ := bnd_some hf
            refine g_cvi (As := [.int (i2 p1)]) (rest := []) X w_M_14 (k_X11_takesNumber X.2.2.1 p1 hp1 w_M_14.2.2 hc) lk_X11_295 cl_11 KD_80 ⟨rfl, rfl⟩ ⟨nle rfl, nle rfl⟩ ⟨nle rfl, nle rfl⟩ hl.1 rfl (nle rfl) dX11_isBody_142 (fun hr_12 H locs w_M_15 => ?_)
            refine g_if_eq (tgt := 152) X hr_12 dX11_isBody_145 (by decide) (fun cd_15 => ?_) (fun cd_15 => ?_)
            · replace hf := ite_t cd_15 hf
              refine g_iconst X dX11_isBody_152 ?_
              exact HR 0 M_15 _ _ _ _ (Option.some.inj hf).symm (Or.inl rfl) w_M_15 dX11_isBody_153
            · replace hf := ite_f cd_15 hf
              refine g_iconst X dX11_isBody_148 ?_
              refine lv_goto (tgt := 153) hx hb dX11_isBody_149 (by decide) ?_
              exact HR 1 M_15 _ _ _ _ (Option.some.inj hf).symm (Or.inr rfl) w_M_15 dX11_isBody_153
        · replace hf := ite_t cd_13 hf
          refine lv_aload_n hx hb dX11_isBody_121 rfl (lv_at hl 0 rfl) ?_
          refine g_iconst X dX11_isBody_122 ?_
          obtain ⟨r_13, M_16, hc, hf⟩ := bnd_some hf
          refine g_cvi (As := [.int (i2 1)]) (rest := []) X w_M_12 (k_X11_wrong X.2.2.1 1 (inL rfl) w_M_12.2.2 hc) lk_X11_259 cl_11 KD_80 ⟨rfl, rfl⟩ ⟨nle rfl, nle rfl⟩ ⟨nle rfl, nle rfl⟩ hl.1 rfl (nle rfl) dX11_isBody_123 (fun hr_13 H locs w_M_16 => ?_)
          obtain ⟨hz, hf⟩ := gd_some hf
          exact HR r_13 M_16 _ _ _ _ (Option.some.inj hf).symm hz w_M_16 dX11_isBody_126
      · replace hf := ite_f cd_12 hf
        by_cases cd_16 : p2 = 2
        · replace hf := ite_t cd_16 hf
          refine g_tin (tgt := 154) (k := 2) (off := 153) X cd_16 hp2 (by decide) (by decide) (by rfl) dX11_isBody_1 (by decide) ?_
          refine lv_aload_n hx hb dX11_isBody_154 rfl (lv_at hl 0 rfl) ?_
          refine g_bipush X dX11_isBody_155 (by decide) ?_
          obtain ⟨r_14, M_17, hc, hf⟩ := bnd_some hf
          refine g_cvi (As := [.int (i2 58)]) (rest := []) X w (k_X11_takesSign X.2.2.1 58 (inL rfl) w.2.2 hc) lk_X11_289 cl_11 KD_80 ⟨rfl, rfl⟩ ⟨nle rfl, nle rfl⟩ ⟨nle rfl, nle rfl⟩ hl.1 rfl (nle rfl) dX11_isBody_157 (fun hr_14 H locs w_M_17 => ?_)
          refine g_if_eq (tgt := 175) X hr_14 dX11_isBody_160 (by decide) (fun cd_17 => ?_) (fun cd_17 => ?_)
          · replace hf := ite_t cd_17 hf
            refine g_iconst X dX11_isBody_175 ?_
            exact HR 0 M_17 _ _ _ _ (Option.some.inj hf).symm (Or.inl rfl) w_M_17 dX11_isBody_176
          · replace hf := ite_f cd_17 hf
            refine lv_aload_n hx hb dX11_isBody_163 rfl (lv_at hl 0 rfl) ?_
            refine lv_iload_n hx hb dX11_isBody_164 rfl (lv_at hl 1 rfl) ?_
            obtain ⟨r_15, M_18, hc, hf⟩ := bnd_some hf
            refine g_cvi (As := [.int (i2 p1)]) (rest := []) X w_M_17 (k_X11_takesNumber X.2.2.1 p1 hp1 w_M_17.2.2 hc) lk_X11_295 cl_11 KD_80 ⟨rfl, rfl⟩ ⟨nle rfl, nle rfl⟩ ⟨nle rfl, nle rfl⟩ hl.1 rfl (nle rfl) dX11_isBody_165 (fun hr_15 H locs w_M_18 => ?_)
            refine g_if_eq (tgt := 175) X hr_15 dX11_isBody_168 (by decide) (fun cd_18 => ?_) (fun cd_18 => ?_)
            · replace hf := ite_t cd_18 hf
              refine g_iconst X dX11_isBody_175 ?_
              exact HR 0 M_18 _ _ _ _ (Option.some.inj hf).symm (Or.inl rfl) w_M_18 dX11_isBody_176
            · replace hf := ite_f cd_18 hf
              refine g_iconst X dX11_isBody_171 ?_
              refine lv_goto (tgt := 176) hx hb dX11_isBody_172 (by decide) ?_
              exact HR 1 M_18 _ _ _ _ (Option.some.inj hf).symm (Or.inr rfl) w_M_18 dX11_isBody_176
        · replace hf := ite_f cd_16 hf
          by_cases cd_19 : p2 = 3
          · replace hf := ite_t cd_19 hf
            refine g_tin (tgt := 177) (k := 3) (off := 176) X cd_19 hp2 (by decide) (by decide) (by rfl) dX11_isBody_1 (by decide) ?_
            refine lv_aload_n hx hb dX11_isBody_177 rfl (lv_at hl 0 rfl) ?_
            refine g_iconst X dX11_isBody_178 ?_
            refine lv_iload_n hx hb dX11_isBody_179 rfl (lv_at hl 1 rfl) ?_
            refine g_imul X dX11_isBody_180 ?_
            obtain ⟨r_16, M_19, hc, hf⟩ := bnd_some hf
            refine g_cvi (As := [.int (i2 (wrap (2 * p1)))]) (rest := []) X w (k_X11_takesTerms X.2.2.1 (wrap (2 * p1)) (inR_wrap _) w.2.2 hc) lk_X11_292 cl_11 KD_80 ⟨rfl, rfl⟩ ⟨nle rfl, nle rfl⟩ ⟨nle rfl, nle rfl⟩ hl.1 rfl (nle rfl) dX11_isBody_181 (fun hr_16 H locs w_M_19 => ?_)
            refine g_if_eq (tgt := 208) X hr_16 dX11_isBody_184 (by decide) (fun cd_20 => ?_) (fun cd_20 => ?_)
            · replace hf := ite_t cd_20 hf
              refine g_iconst X dX11_isBody_208 ?_
              exact HR 0 M_19 _ _ _ _ (Option.some.inj hf).symm (Or.inl rfl) w_M_19 dX11_isBody_209
            · replace hf := ite_f cd_20 hf
              refine lv_aload_n hx hb dX11_isBody_187 rfl (lv_at hl 0 rfl) ?_
              refine g_bipush X dX11_isBody_188 (by decide) ?_
              obtain ⟨r_17, M_20, hc, hf⟩ := bnd_some hf
              refine g_cvi (As := [.int (i2 58)]) (rest := []) X w_M_19 (k_X11_takesSign X.2.2.1 58 (inL rfl) w_M_19.2.2 hc) lk_X11_289 cl_11 KD_80 ⟨rfl, rfl⟩ ⟨nle rfl, nle rfl⟩ ⟨nle rfl, nle rfl⟩ hl.1 rfl (nle rfl) dX11_isBody_190 (fun hr_17 H locs w_M_20 => ?_)
              refine g_if_eq (tgt := 208) X hr_17 dX11_isBody_193 (by decide) (fun cd_21 => ?_) (fun cd_21 => ?_)
              · replace hf := ite_t cd_21 hf
                refine g_iconst X dX11_isBody_208 ?_
                exact HR 0 M_20 _ _ _ _ (Option.some.inj hf).symm (Or.inl rfl) w_M_20 dX11_isBody_209
              · replace hf := ite_f cd_21 hf
                refine lv_aload_n hx hb dX11_isBody_196 rfl (lv_at hl 0 rfl) ?_
                refine lv_iload_n hx hb dX11_isBody_197 rfl (lv_at hl 1 rfl) ?_
                obtain ⟨r_18, M_21, hc, hf⟩ := bnd_some hf
                refine g_cvi (As := [.int (i2 p1)]) (rest := []) X w_M_20 (k_X11_takesNumber X.2.2.1 p1 hp1 w_M_20.2.2 hc) lk_X11_295 cl_11 KD_80 ⟨rfl, rfl⟩ ⟨nle rfl, nle rfl⟩ ⟨nle rfl, nle rfl⟩ hl.1 rfl (nle rfl) dX11_isBody_198 (fun hr_18 H locs w_M_21 => ?_)
                refine g_if_eq (tgt := 208) X hr_18 dX11_isBody_201 (by decide) (fun cd_22 => ?_) (fun cd_22 => ?_)
                · replace hf := ite_t cd_22 hf
                  refine g_iconst X dX11_isBody_208 ?_
                  exact HR 0 M_21 _ _ _ _ (Option.some.inj hf).symm (Or.inl rfl) w_M_21 dX11_isBody_209
                · replace hf := ite_f cd_22 hf
                  refine g_iconst X dX11_isBody_204 ?_
                  refine lv_goto (tgt := 209) hx hb dX11_isBody_205 (by decide) ?_
                  exact HR 1 M_21 _ _ _ _ (Option.some.inj hf).symm (Or.inr rfl) w_M_21 dX11_isBody_209
          · replace hf := ite_f cd_19 hf
            by_cases cd_23 : p2 = 4
            · replace hf := ite_t cd_23 hf
              refine g_tin (tgt := 154) (k := 4) (off := 153) X cd_23 hp2 (by decide) (by decide) (by rfl) dX11_isBody_1 (by decide) ?_
              refine lv_aload_n hx hb dX11_isBody_154 rfl (lv_at hl 0 rfl) ?_
              refine g_bipush X dX11_isBody_155 (by decide) ?_
              obtain ⟨r_19, M_22, hc, hf⟩ := bnd_some hf
              refine g_cvi (As := [.int (i2 58)]) (rest := []) X w (k_X11_takesSign X.2.2.1 58 (inL rfl) w.2.2 hc) lk_X11_289 cl_11 KD_80 ⟨rfl, rfl⟩ ⟨nle rfl, nle rfl⟩ ⟨nle rfl, nle rfl⟩ hl.1 rfl (nle rfl) dX11_isBody_157 (fun hr_19 H locs w_M_22 => ?_)
              refine g_if_eq (tgt := 175) X hr_19 dX11_isBody_160 (by decide) (fun cd_24 => ?_) (fun cd_24 => ?_)
              · replace hf := ite_t cd_24 hf
                refine g_iconst X dX11_isBody_175 ?_
                exact HR 0 M_22 _ _ _ _ (Option.some.inj hf).symm (Or.inl rfl) w_M_22 dX11_isBody_176
              · replace hf := ite_f cd_24 hf
                refine lv_aload_n hx hb dX11_isBody_163 rfl (lv_at hl 0 rfl) ?_
                refine lv_iload_n hx hb dX11_isBody_164 rfl (lv_at hl 1 rfl) ?_
                obtain ⟨r_20, M_23, hc, hf⟩ := bnd_some hf
                refine g_cvi (As := [.int (i2 p1)]) (rest := []) X w_M_22 (k_X11_takesNumber X.2.2.1 p1 hp1 w_M_22.2.2 hc) lk_X11_295 cl_11 KD_80 ⟨rfl, rfl⟩ ⟨nle rfl, nle rfl⟩ ⟨nle rfl, nle rfl⟩ hl.1 rfl (nle rfl) dX11_isBody_165 (fun hr_20 H locs w_M_23 => ?_)
                refine g_if_eq (tgt := 175) X hr_20 dX11_isBody_168 (by decide) (fun cd_25 => ?_) (fun cd_25 => ?_)
                · replace hf := ite_t cd_25 hf
                  refine g_iconst X dX11_isBody_175 ?_
                  exact HR 0 M_23 _ _ _ _ (Option.some.inj hf).symm (Or.inl rfl) w_M_23 dX11_isBody_176
                · replace hf := ite_f cd_25 hf
                  refine g_iconst X dX11_isBody_171 ?_
                  refine lv_goto (tgt := 176) hx hb dX11_isBody_172 (by decide) ?_
                  exact HR 1 M_23 _ _ _ _ (Option.some.inj hf).symm (Or.inr rfl) w_M_23 dX11_isBody_176
            · replace hf := ite_f cd_23 hf
              by_cases cd_26 : p2 = 5
              · replace hf := ite_t cd_26 hf
                refine g_tin (tgt := 210) (k := 5) (off := 209) X cd_26 hp2 (by decide) (by decide) (by rfl) dX11_isBody_1 (by decide) ?_
                refine lv_aload_n hx hb dX11_isBody_210 rfl (lv_at hl 0 rfl) ?_
                refine g_iconst X dX11_isBody_211 ?_
                refine lv_iload_n hx hb dX11_isBody_212 rfl (lv_at hl 1 rfl) ?_
                refine g_imul X dX11_isBody_213 ?_
                obtain ⟨r_21, M_24, hc, hf⟩ := bnd_some hf
                refine g_cvi (As := [.int (i2 (wrap (2 * p1)))]) (rest := []) X w (k_X11_takesTerms X.2.2.1 (wrap (2 * p1)) (inR_wrap _) w.2.2 hc) lk_X11_292 cl_11 KD_80 ⟨rfl, rfl⟩ ⟨nle rfl, nle rfl⟩ ⟨nle rfl, nle rfl⟩ hl.1 rfl (nle rfl) dX11_isBody_214 (fun hr_21 H locs w_M_24 => ?_)
                refine g_if_ne (tgt := 222) X hr_21 dX11_isBody_217 (by decide) (fun cd_27 => ?_) (fun cd_27 => ?_)
                · replace hf := ite_f cd_27 hf
                  refine lv_aload_n hx hb dX11_isBody_222 rfl (lv_at hl 0 rfl) ?_
                  refine g_ldcsw X (i := 24) (by decide) rfl rfl dX11_isBody_223 ?_
                  obtain ⟨r_22, M_25, hc, hf⟩ := bnd_some hf
                  refine g_cvi (As := [.ref (sg.1 24)]) (rest := []) X w_M_24 (k_X11_isWord X.2.2.1 24 (by decide) w_M_24.2.2 hc) lk_X11_252 cl_11 KD_80 ⟨rfl, rfl⟩ ⟨nle rfl, nle rfl⟩ ⟨nle rfl, nle rfl⟩ hl.1 rfl (nle rfl) dX11_isBody_226 (fun hr_22 H locs w_M_25 => ?_)
                  refine g_if_ne (tgt := 238) X hr_22 dX11_isBody_229 (by decide) (fun cd_28 => ?_) (fun cd_28 => ?_)
                  · replace hf := ite_f cd_28 hf
                    refine lv_aload_n hx hb dX11_isBody_238 rfl (lv_at hl 0 rfl) ?_
                    obtain ⟨M_26, hc, hf⟩ := obn_some hf
                    refine g_cvv (As := []) (rest := []) X w_M_25 (k_X11_next X.2.2.1  w_M_25.2.2 hc) lk_X11_262 cl_11 KD_80 ⟨rfl, rfl⟩ ⟨nle rfl, nle rfl⟩ ⟨nle rfl, nle rfl⟩ hl.1 rfl (nle rfl) dX11_isBody_239 (fun H locs w_M_26 => ?_)
                    refine lv_aload_n hx hb dX11_isBody_242 rfl (lv_at hl 0 rfl) ?_
                    refine g_iconst X dX11_isBody_243 ?_
                    refine lv_iload_n hx hb dX11_isBody_244 rfl (lv_at hl 1 rfl) ?_
                    refine g_imul X dX11_isBody_245 ?_
                    refine g_iconst X dX11_isBody_246 ?_
                    refine g_iadd X dX11_isBody_247 ?_
                    obtain ⟨r_23, M_27, hc, hf⟩ := bnd_some hf
                    refine g_cvi (As := [.int (i2 (wrap ((wrap (2 * p1)) + 1)))]) (rest := []) X w_M_26 (k_X11_takesTerms X.2.2.1 (wrap ((wrap (2 * p1)) + 1)) (inR_wrap _) w_M_26.2.2 hc) lk_X11_292 cl_11 KD_80 ⟨rfl, rfl⟩ ⟨nle rfl, nle rfl⟩ ⟨nle rfl, nle rfl⟩ hl.1 rfl (nle rfl) dX11_isBody_248 (fun hr_23 H locs w_M_27 => ?_)
                    obtain ⟨hz_2, hf⟩ := gd_some hf
                    exact HR r_23 M_27 _ _ _ _ (Option.some.inj hf).symm hz_2 w_M_27 dX11_isBody_251
                  · replace hf := ite_t cd_28 hf
                    refine lv_aload_n hx hb dX11_isBody_232 rfl (lv_at hl 0 rfl) ?_
                    refine g_iconst X dX11_isBody_233 ?_
                    obtain ⟨r_24, M_28, hc, hf⟩ := bnd_some hf
                    refine g_cvi (As := [.int (i2 1)]) (rest := []) X w_M_25 (k_X11_wrong X.2.2.1 1 (inL rfl) w_M_25.2.2 hc) lk_X11_259 cl_11 KD_80 ⟨rfl, rfl⟩ ⟨nle rfl, nle rfl⟩ ⟨nle rfl, nle rfl⟩ hl.1 rfl (nle rfl) dX11_isBody_234 (fun hr_24 H locs w_M_28 => ?_)
                    obtain ⟨hz_3, hf⟩ := gd_some hf
                    exact HR r_24 M_28 _ _ _ _ (Option.some.inj hf).symm hz_3 w_M_28 dX11_isBody_237
                · replace hf := ite_t cd_27 hf
                  refine g_iconst X dX11_isBody_220 ?_
                  exact HR 0 M_24 _ _ _ _ (Option.some.inj hf).symm (Or.inl rfl) w_M_24 dX11_isBody_221
              · replace hf := ite_f cd_26 hf
                by_cases cd_29 : p2 = 6
                · replace hf := ite_t cd_29 hf
                  refine g_tin (tgt := 252) (k := 6) (off := 251) X cd_29 hp2 (by decide) (by decide) (by rfl) dX11_isBody_1 (by decide) ?_
                  refine lv_aload_n hx hb dX11_isBody_252 rfl (lv_at hl 0 rfl) ?_
                  refine lv_iload_n hx hb dX11_isBody_253 rfl (lv_at hl 1 rfl) ?_
                  obtain ⟨r_25, M_29, hc, hf⟩ := bnd_some hf
                  refine g_cvi (As := [.int (i2 p1)]) (rest := []) X w (k_X11_takesNumber X.2.2.1 p1 hp1 w.2.2 hc) lk_X11_295 cl_11 KD_80 ⟨rfl, rfl⟩ ⟨nle rfl, nle rfl⟩ ⟨nle rfl, nle rfl⟩ hl.1 rfl (nle rfl) dX11_isBody_254 (fun hr_25 H locs w_M_29 => ?_)
                  refine g_if_eq (tgt := 274) X hr_25 dX11_isBody_257 (by decide) (fun cd_30 => ?_) (fun cd_30 => ?_)
                  · replace hf := ite_t cd_30 hf
                    refine g_iconst X dX11_isBody_274 ?_
                    exact HR 0 M_29 _ _ _ _ (Option.some.inj hf).symm (Or.inl rfl) w_M_29 dX11_isBody_275
                  · replace hf := ite_f cd_30 hf
                    refine lv_aload_n hx hb dX11_isBody_260 rfl (lv_at hl 0 rfl) ?_
                    refine g_iconst X dX11_isBody_261 ?_
                    refine lv_iload_n hx hb dX11_isBody_262 rfl (lv_at hl 1 rfl) ?_
                    refine g_imul X dX11_isBody_263 ?_
                    obtain ⟨r_26, M_30, hc, hf⟩ := bnd_some hf
                    refine g_cvi (As := [.int (i2 (wrap (2 * p1)))]) (rest := []) X w_M_29 (k_X11_takesTerms X.2.2.1 (wrap (2 * p1)) (inR_wrap _) w_M_29.2.2 hc) lk_X11_292 cl_11 KD_80 ⟨rfl, rfl⟩ ⟨nle rfl, nle rfl⟩ ⟨nle rfl, nle rfl⟩ hl.1 rfl (nle rfl) dX11_isBody_264 (fun hr_26 H locs w_M_30 => ?_)
                    refine g_if_eq (tgt := 274) X hr_26 dX11_isBody_267 (by decide) (fun cd_31 => ?_) (fun cd_31 => ?_)
                    · replace hf := ite_t cd_31 hf
                      refine g_iconst X dX11_isBody_274 ?_
                      exact HR 0 M_30 _ _ _ _ (Option.some.inj hf).symm (Or.inl rfl) w_M_30 dX11_isBody_275
                    · replace hf := ite_f cd_31 hf
                      refine g_iconst X dX11_isBody_270 ?_
                      refine lv_goto (tgt := 275) hx hb dX11_isBody_271 (by decide) ?_
                      exact HR 1 M_30 _ _ _ _ (Option.some.inj hf).symm (Or.inr rfl) w_M_30 dX11_isBody_275
                · replace hf := ite_f cd_29 hf
                  by_cases cd_32 : p2 = 7
                  · replace hf := ite_t cd_32 hf
                    refine g_tin (tgt := 252) (k := 7) (off := 251) X cd_32 hp2 (by decide) (by decide) (by rfl) dX11_isBody_1 (by decide) ?_
                    refine lv_aload_n hx hb dX11_isBody_252 rfl (lv_at hl 0 rfl) ?_
                    refine lv_iload_n hx hb dX11_isBody_253 rfl (lv_at hl 1 rfl) ?_
                    obtain ⟨r_27, M_31, hc, hf⟩ := bnd_some hf
                    refine g_cvi (As := [.int (i2 p1)]) (rest := []) X w (k_X11_takesNumber X.2.2.1 p1 hp1 w.2.2 hc) lk_X11_295 cl_11 KD_80 ⟨rfl, rfl⟩ ⟨nle rfl, nle rfl⟩ ⟨nle rfl, nle rfl⟩ hl.1 rfl (nle rfl) dX11_isBody_254 (fun hr_27 H locs w_M_31 => ?_)
                    refine g_if_eq (tgt := 274) X hr_27 dX11_isBody_257 (by decide) (fun cd_33 => ?_) (fun cd_33 => ?_)
                    · replace hf := ite_t cd_33 hf
                      refine g_iconst X dX11_isBody_274 ?_
                      exact HR 0 M_31 _ _ _ _ (Option.some.inj hf).symm (Or.inl rfl) w_M_31 dX11_isBody_275
                    · replace hf := ite_f cd_33 hf
                      refine lv_aload_n hx hb dX11_isBody_260 rfl (lv_at hl 0 rfl) ?_
                      refine g_iconst X dX11_isBody_261 ?_
                      refine lv_iload_n hx hb dX11_isBody_262 rfl (lv_at hl 1 rfl) ?_
                      refine g_imul X dX11_isBody_263 ?_
                      obtain ⟨r_28, M_32, hc, hf⟩ := bnd_some hf
                      refine g_cvi (As := [.int (i2 (wrap (2 * p1)))]) (rest := []) X w_M_31 (k_X11_takesTerms X.2.2.1 (wrap (2 * p1)) (inR_wrap _) w_M_31.2.2 hc) lk_X11_292 cl_11 KD_80 ⟨rfl, rfl⟩ ⟨nle rfl, nle rfl⟩ ⟨nle rfl, nle rfl⟩ hl.1 rfl (nle rfl) dX11_isBody_264 (fun hr_28 H locs w_M_32 => ?_)
                      refine g_if_eq (tgt := 274) X hr_28 dX11_isBody_267 (by decide) (fun cd_34 => ?_) (fun cd_34 => ?_)
                      · replace hf := ite_t cd_34 hf
                        refine g_iconst X dX11_isBody_274 ?_
                        exact HR 0 M_32 _ _ _ _ (Option.some.inj hf).symm (Or.inl rfl) w_M_32 dX11_isBody_275
                      · replace hf := ite_f cd_34 hf
                        refine g_iconst X dX11_isBody_270 ?_
                        refine lv_goto (tgt := 275) hx hb dX11_isBody_271 (by decide) ?_
                        exact HR 1 M_32 _ _ _ _ (Option.some.inj hf).symm (Or.inr rfl) w_M_32 dX11_isBody_275
                  · replace hf := ite_f cd_32 hf
                    cases hf
set_option maxRecDepth 100000 in
set_option maxHeartbeats 4000000 in
theorem k_X11_isBody {l : Launch} {D : va_G} {aC : Nat → ClassId} {ad : Nat → Nat} {sg : SG} (hi : Inj ad) (p1 : Int) (hp1 : inR p1) (p2 : Int) (hp2 : inR p2) {M : Mem} (hM : inM M) {r : Int} {M' : Mem} (hf : f_X11_isBody p1 p2 M = some (r, M')) : MetI l D aC ad sg yX11_isBody cX11_isBody 3 (some .boolean) rm_X11_isBody 0 0 [.ref (ad 80), .int (i2 p1), .int (i2 p2)] M r M' := by
  refine MetI.ofZ (by decide +kernel) (nle rfl) hi hM (fun p e s m args below meth c Q H0 ls X hl w hret => ?_)
  exact b_X11_isBody_0 X  (fun r1 M1 H locs pc ls eo hP w dg => by cases eo; exact hret H locs pc ls hP w dg) p1 hp1 p2 hp2 M hf hl w
set_option maxRecDepth 100000 in
set_option maxHeartbeats 4000000 in
theorem b_X11_statement_0 (X : CX p s m args c cX11_statement 3 RX11 D aC ad sg A H0) {o : Int × Mem} (HR : ∀ (r : Int) (M1 : Mem) (H : Heap) (locs : List Loc) (pc : Nat) (ls : Array Slot), o = (r, M1) → isZ r → WS D aC ad A H0 M1 H locs → decode cX11_statement pc = .ok (.ireturn, 1) → W p l e rm_X11_statement s m args below meth c H locs 0 0 Q (F0 m pc ls [.int (i2 r)])) (M : Mem) (hf : f_X11_statement M = some o) {H : Heap} {locs : List Loc} {ls : Array Slot} (hl : lv_has ls 3 [(0, .ref (ad 80))]) (w : WS D aC ad A H0 M H locs) : W p l e rm_X11_statement s m args below meth c H locs 0 0 Q (F0 m 0 ls []) := by
  have hx := X.1.1
  have hb := X.1.2.1
  unfold f_X11_statement at hf
  refine lv_aload_n hx hb dX11_statement_0 rfl (lv_at hl 0 rfl) ?_
  obtain ⟨r, M_2, hc, hf⟩ := bnd_some hf
  refine g_cvi (As := []) (rest := []) X w (k_X11_sortHere X.2.2.1  w.2.2 hc) lk_X11_280 cl_11 KD_80 ⟨rfl, rfl⟩ ⟨nle rfl, nle rfl⟩ ⟨nle rfl, nle rfl⟩ hl.1 rfl (nle rfl) dX11_statement_1 (fun hr H locs w_M_2 => ?_)
  refine g_istn (v := r) (lv' := [(1, .int (i2 r)), (0, .ref (ad 80))]) X rfl dX11_statement_4 rfl hl (by decide) rfl (fun ls hl => ?_)
  refine lv_iload_n hx hb dX11_statement_5 rfl (lv_at hl 0 rfl) ?_
  refine g_iconst X dX11_statement_6 ?_
  refine g_icmp_ne (tgt := 16) X hr (inL rfl) dX11_statement_7 (by decide) (fun cd => ?_) (fun cd => ?_)
  · replace hf := ite_f cd hf
    refine lv_aload_n hx hb dX11_statement_16 rfl (lv_at hl 1 rfl) ?_
    refine g_geti X w_M_2 fg_X11_283 KD_80 FR_80_22 dX11_statement_17 ?_
    refine g_bipush X dX11_statement_20 (by decide) ?_
    refine g_icmp_ne (tgt := 31) X (w_M_2.2.2 _ _) (inL rfl) dX11_statement_22 (by decide) (fun cd_2 => ?_) (fun cd_2 => ?_)
    · replace hf := ite_f cd_2 hf
      refine g_bipush X dX11_statement_31 (by decide) ?_
      refine lv_aload_n hx hb dX11_statement_33 rfl (lv_at hl 1 rfl) ?_
      refine g_geti X w_M_2 fg_X11_283 KD_80 FR_80_22 dX11_statement_34 ?_
      refine g_iadd X dX11_statement_37 ?_
      obtain ⟨v2, ev2, hf⟩ := lt_some hf
      have hv2 : inR v2 := inR_of ev2 (inR_wrap _)
      refine g_istn (v := v2) (lv' := [(2, .int (i2 v2)), (1, .int (i2 r)), (0, .ref (ad 80))]) X ev2 dX11_statement_38 rfl hl (by decide) rfl (fun ls hl => ?_)
      refine lv_aload_n hx hb dX11_statement_39 rfl (lv_at hl 2 rfl) ?_
      refine g_getr X w_M_2 fg_X11_63 KD_80 FR_80_23 dX11_statement_40 ?_
      refine lv_iload_n hx hb dX11_statement_43 rfl (lv_at hl 0 rfl) ?_
      refine lv_iload_n hx hb dX11_statement_44 rfl (lv_at hl 1 rfl) ?_
      obtain ⟨hg, hf⟩ := gd_some hf
      obtain ⟨M_3, eM_3, hf⟩ := lt_some hf
      refine g_iast X w_M_2 KD_97 hv2 hg hr dX11_statement_45 (fun H locs w_M_3 => ?_)
      rw [← eM_3] at w_M_3
      refine lv_aload_n hx hb dX11_statement_46 rfl (lv_at hl 2 rfl) ?_
      refine g_getr X w_M_3 fg_X11_66 KD_80 FR_80_24 dX11_statement_47 ?_
      refine lv_iload_n hx hb dX11_statement_50 rfl (lv_at hl 0 rfl) ?_
      refine g_iconst X dX11_statement_51 ?_
      obtain ⟨hg_2, hf⟩ := gd_some hf
      obtain ⟨M_4, eM_4, hf⟩ := lt_some hf
      refine g_iast X w_M_3 KD_98 hv2 hg_2 (inL rfl) dX11_statement_52 (fun H locs w_M_4 => ?_)
      rw [← eM_4] at w_M_4
      refine lv_aload_n hx hb dX11_statement_53 rfl (lv_at hl 2 rfl) ?_
      refine g_getr X w_M_4 fg_X11_69 KD_80 FR_80_25 dX11_statement_54 ?_
      refine lv_iload_n hx hb dX11_statement_57 rfl (lv_at hl 0 rfl) ?_
      refine g_iconst X dX11_statement_58 ?_
      obtain ⟨hg_3, hf⟩ := gd_some hf
      obtain ⟨M_5, eM_5, hf⟩ := lt_some hf
      refine g_iast X w_M_4 KD_99 hv2 hg_3 (inL rfl) dX11_statement_59 (fun H locs w_M_5 => ?_)
      rw [← eM_5] at w_M_5
      refine lv_aload_n hx hb dX11_statement_60 rfl (lv_at hl 2 rfl) ?_
      refine g_getr X w_M_5 fg_X11_72 KD_80 FR_80_26 dX11_statement_61 ?_
      refine g_iconst X dX11_statement_64 ?_
      refine lv_iload_n hx hb dX11_statement_65 rfl (lv_at hl 0 rfl) ?_
      refine g_imul X dX11_statement_66 ?_
      refine g_iconst X dX11_statement_67 ?_
      obtain ⟨hg_4, hf⟩ := gd_some hf
      obtain ⟨M_6, eM_6, hf⟩ := lt_some hf
      refine g_iast X w_M_5 KD_100 (inR_wrap _) hg_4 (inL rfl) dX11_statement_68 (fun H locs w_M_6 => ?_)
      rw [← eM_6] at w_M_6
      refine lv_aload_n hx hb dX11_statement_69 rfl (lv_at hl 2 rfl) ?_
      refine g_getr X w_M_6 fg_X11_72 KD_80 FR_80_26 dX11_statement_70 ?_
      refine g_iconst X dX11_statement_73 ?_
      refine lv_iload_n hx hb dX11_statement_74 rfl (lv_at hl 0 rfl) ?_
      refine g_imul X dX11_statement_75 ?_
      refine g_iconst X dX11_statement_76 ?_
      refine g_iadd X dX11_statement_77 ?_
      refine g_iconst X dX11_statement_78 ?_
      obtain ⟨hg_5, hf⟩ := gd_some hf
      obtain ⟨M_7, eM_7, hf⟩ := lt_some hf
      refine g_iast X w_M_6 KD_100 (inR_wrap _) hg_5 (inL rfl) dX11_statement_79 (fun H locs w_M_7 => ?_)
      rw [← eM_7] at w_M_7
      refine lv_aload_n hx hb dX11_statement_80 rfl (lv_at hl 2 rfl) ?_
      obtain ⟨M_8, hc, hf⟩ := obn_some hf
      refine g_cvv (As := []) (rest := []) X w_M_7 (k_X11_next X.2.2.1  w_M_7.2.2 hc) lk_X11_262 cl_11 KD_80 ⟨rfl, rfl⟩ ⟨nle rfl, nle rfl⟩ ⟨nle rfl, nle rfl⟩ hl.1 rfl (nle rfl) dX11_statement_81 (fun H locs w_M_8 => ?_)
      refine lv_aload_n hx hb dX11_statement_84 rfl (lv_at hl 2 rfl) ?_
      refine lv_iload_n hx hb dX11_statement_85 rfl (lv_at hl 0 rfl) ?_
      refine lv_iload_n hx hb dX11_statement_86 rfl (lv_at hl 1 rfl) ?_
      obtain ⟨r_2, M_9, hc, hf⟩ := bnd_some hf
      refine g_cvi (As := [.int (i2 v2), .int (i2 r)]) (rest := []) X w_M_8 (k_X11_isBody X.2.2.1 v2 hv2 r hr w_M_8.2.2 hc) lk_X11_286 cl_11 KD_80 ⟨rfl, rfl⟩ ⟨nle rfl, nle rfl⟩ ⟨nle rfl, nle rfl⟩ hl.1 rfl (nle rfl) dX11_statement_87 (fun hr_2 H locs w_M_9 => ?_)
      refine g_if_ne (tgt := 95) X hr_2 dX11_statement_90 (by decide) (fun cd_3 => ?_) (fun cd_3 => ?_)
      · replace hf := ite_f cd_3 hf
        refine lv_aload_n hx hb dX11_statement_95 rfl (lv_at hl 2 rfl) ?_
        refine g_bipush X dX11_statement_96 (by decide) ?_
        obtain ⟨r_3, M_10, hc, hf⟩ := bnd_some hf
        refine g_cvi (As := [.int (i2 59)]) (rest := []) X w_M_9 (k_X11_takesSign X.2.2.1 59 (inL rfl) w_M_9.2.2 hc) lk_X11_289 cl_11 KD_80 ⟨rfl, rfl⟩ ⟨nle rfl, nle rfl⟩ ⟨nle rfl, nle rfl⟩ hl.1 rfl (nle rfl) dX11_statement_98 (fun hr_3 H locs w_M_10 => ?_)
        refine g_if_ne (tgt := 106) X hr_3 dX11_statement_101 (by decide) (fun cd_4 => ?_) (fun cd_4 => ?_)
        · replace hf := ite_f cd_4 hf
          refine lv_aload_n hx hb dX11_statement_106 rfl (lv_at hl 2 rfl) ?_
          refine lv_dup hx hb dX11_statement_107 rfl ?_
          refine g_geti X w_M_10 fg_X11_283 KD_80 FR_80_22 dX11_statement_108 ?_
          refine g_iconst X dX11_statement_111 ?_
          refine g_iadd X dX11_statement_112 ?_
          obtain ⟨M_11, eM_11, hf⟩ := lt_some hf
          refine g_puti X w_M_10 fp_X11_283 KD_80 FR_80_22 (inR_wrap _) dX11_statement_113 (fun H locs w_M_11 => ?_)
          rw [← eM_11] at w_M_11
          refine g_iconst X dX11_statement_116 ?_
          exact HR 1 M_11 _ _ _ _ (Option.some.inj hf).symm (Or.inr rfl) w_M_11 dX11_statement_117
        · replace hf := ite_t cd_4 hf
          refine g_iconst X dX11_statement_104 ?_
          exact HR 0 M_10 _ _ _ _ (Option.some.inj hf).symm (Or.inl rfl) w_M_10 dX11_statement_105
      · replace hf := ite_t cd_3 hf
        refine g_iconst X dX11_statement_93 ?_
        exact HR 0 M_9 _ _ _ _ (Option.some.inj hf).symm (Or.inl rfl) w_M_9 dX11_statement_94
    · replace hf := ite_t cd_2 hf
      refine lv_aload_n hx hb dX11_statement_25 rfl (lv_at hl 1 rfl) ?_
      refine g_iconst X dX11_statement_26 ?_
      obtain ⟨r_4, M_12, hc, hf⟩ := bnd_some hf
      refine g_cvi (As := [.int (i2 3)]) (rest := []) X w_M_2 (k_X11_wrong X.2.2.1 3 (inL rfl) w_M_2.2.2 hc) lk_X11_259 cl_11 KD_80 ⟨rfl, rfl⟩ ⟨nle rfl, nle rfl⟩ ⟨nle rfl, nle rfl⟩ hl.1 rfl (nle rfl) dX11_statement_27 (fun hr_4 H locs w_M_12 => ?_)
      obtain ⟨hz, hf⟩ := gd_some hf
      exact HR r_4 M_12 _ _ _ _ (Option.some.inj hf).symm hz w_M_12 dX11_statement_30
  · replace hf := ite_t cd hf
    refine lv_aload_n hx hb dX11_statement_10 rfl (lv_at hl 1 rfl) ?_
    refine g_iconst X dX11_statement_11 ?_
    obtain ⟨r_5, M_13, hc, hf⟩ := bnd_some hf
    refine g_cvi (As := [.int (i2 1)]) (rest := []) X w_M_2 (k_X11_wrong X.2.2.1 1 (inL rfl) w_M_2.2.2 hc) lk_X11_259 cl_11 KD_80 ⟨rfl, rfl⟩ ⟨nle rfl, nle rfl⟩ ⟨nle rfl, nle rfl⟩ hl.1 rfl (nle rfl) dX11_statement_12 (fun hr_5 H locs w_M_13 => ?_)
    obtain ⟨hz_2, hf⟩ := gd_some hf
    exact HR r_5 M_13 _ _ _ _ (Option.some.inj hf).symm hz_2 w_M_13 dX11_statement_15
set_option maxRecDepth 100000 in
set_option maxHeartbeats 4000000 in
theorem k_X11_statement {l : Launch} {D : va_G} {aC : Nat → ClassId} {ad : Nat → Nat} {sg : SG} (hi : Inj ad)  {M : Mem} (hM : inM M) {r : Int} {M' : Mem} (hf : f_X11_statement M = some (r, M')) : MetI l D aC ad sg yX11_statement cX11_statement 3 (some .boolean) rm_X11_statement 0 0 [.ref (ad 80)] M r M' := by
  refine MetI.ofZ (by decide +kernel) (nle rfl) hi hM (fun p e s m args below meth c Q H0 ls X hl w hret => ?_)
  exact b_X11_statement_0 X  (fun r1 M1 H locs pc ls eo hP w dg => by cases eo; exact hret H locs pc ls hP w dg) M hf hl w
set_option maxRecDepth 100000 in
set_option maxHeartbeats 4000000 in
theorem b_X11_rule_s31 (X : CX p s m args c cX11_rule 3 RX11 D aC ad sg A H0) {o : (Int × Mem) ⊕ (Int × Mem)} (HC : ∀ (y1 : Int) (M1 : Mem) (H : Heap) (locs : List Loc) (ls : Array Slot), o = .inl (y1, M1) → inR y1 → lv_has ls 3 [(0, .ref (ad 80)), (1, .int (i2 y1))] → WS D aC ad A H0 M1 H locs → W p l e rm_X11_rule s m args below meth c H locs 0 0 Q (F0 m 31 ls [])) (HE : ∀ (y1 : Int) (M1 : Mem) (H : Heap) (locs : List Loc) (ls : Array Slot), o = .inr (y1, M1) → inR y1 → lv_has ls 3 [(0, .ref (ad 80)), (1, .int (i2 y1))] → WS D aC ad A H0 M1 H locs → W p l e rm_X11_rule s m args below meth c H locs 0 0 Q (F0 m 50 ls [])) (v1 : Int) (hv1 : inR v1) (M : Mem) (hf : f_X11_rule_s31 v1 M = some o) {H : Heap} {locs : List Loc} {ls : Array Slot} (hl : lv_has ls 3 [(0, .ref (ad 80)), (1, .int (i2 v1))]) (w : WS D aC ad A H0 M H locs) : W p l e rm_X11_rule s m args below meth c H locs 0 0 Q (F0 m 31 ls []) := by
  have hx := X.1.1
  have hb := X.1.2.1
  unfold f_X11_rule_s31 at hf
  refine lv_iload_n hx hb dX11_rule_31 rfl (lv_at hl 1 rfl) ?_
  refine g_if_eq (tgt := 50) X hv1 dX11_rule_32 (by decide) (fun cd => ?_) (fun cd => ?_)
  · replace hf := ite_t cd hf
    exact HE v1 M _ _ _ (Option.some.inj hf).symm hv1 hl w
  · replace hf := ite_f cd hf
    refine lv_aload_n hx hb dX11_rule_35 rfl (lv_at hl 0 rfl) ?_
    refine g_geti X w fg_X11_223 KD_80 FR_80_38 dX11_rule_36 ?_
    refine g_if_eq (tgt := 50) X (w.2.2 _ _) dX11_rule_39 (by decide) (fun cd_2 => ?_) (fun cd_2 => ?_)
    · replace hf := ite_t cd_2 hf
      exact HE v1 M _ _ _ (Option.some.inj hf).symm hv1 hl w
    · replace hf := ite_f cd_2 hf
      refine lv_aload_n hx hb dX11_rule_42 rfl (lv_at hl 0 rfl) ?_
      obtain ⟨r, M_2, hc, hf⟩ := bnd_some hf
      refine g_cvi (As := []) (rest := []) X w (k_X11_statement X.2.2.1  w.2.2 hc) lk_X11_303 cl_11 KD_80 ⟨rfl, rfl⟩ ⟨nle rfl, nle rfl⟩ ⟨nle rfl, nle rfl⟩ hl.1 rfl (nle rfl) dX11_rule_43 (fun hr H locs w_M_2 => ?_)
      refine g_istn (v := r) (lv' := [(1, .int (i2 r)), (0, .ref (ad 80))]) X rfl dX11_rule_46 rfl hl (by decide) rfl (fun ls hl => ?_)
      refine lv_goto (tgt := 31) hx hb dX11_rule_47 (by decide) ?_
      exact HC r M_2 _ _ _ (Option.some.inj hf).symm hr (lv_sub hl [1, 0] rfl) w_M_2
set_option maxRecDepth 100000 in
set_option maxHeartbeats 4000000 in
theorem l_X11_rule_31 (X : CX p s m args c cX11_rule 3 RX11 D aC ad sg A H0) {out : Int × Mem} (HE : ∀ (y1 : Int) (M1 : Mem) (H : Heap) (locs : List Loc) (ls : Array Slot), out = (y1, M1) → inR y1 → lv_has ls 3 [(0, .ref (ad 80)), (1, .int (i2 y1))] → WS D aC ad A H0 M1 H locs → W p l e rm_X11_rule s m args below meth c H locs 0 0 Q (F0 m 50 ls [])) : ∀ (n : Nat) (v1 : Int) (M : Mem), whl (fun s => f_X11_rule_s31 s.1 s.2) n (v1, M) = some out → inR v1 → ∀ {H : Heap} {locs : List Loc} {ls : Array Slot}, lv_has ls 3 [(0, .ref (ad 80)), (1, .int (i2 v1))] → WS D aC ad A H0 M H locs → W p l e rm_X11_rule s m args below meth c H locs 0 0 Q (F0 m 31 ls []) := by
  intro n
  induction n with
  | zero => intro v1 M hf; exact (whl_zero hf).elim
  | succ n ih =>
    intro v1 M hf hv1 H locs ls hl w
    obtain ⟨o, hf, hk1, hk2⟩ := whl_step hf
    exact b_X11_rule_s31 X  (fun y1 M1 H locs ls eo hy1 hl w => ih y1 M1 (hk1 _ eo) hy1 hl w) (fun y1 M1 H locs ls eo hy1 hl w => HE y1 M1 H locs ls (hk2 _ eo).symm hy1 hl w) v1 hv1 M hf hl w
set_option maxRecDepth 100000 in
set_option maxHeartbeats 4000000 in
theorem b_X11_rule_s84 (X : CX p s m args c cX11_rule 3 RX11 D aC ad sg A H0) {o : (Int × Mem) ⊕ (Int × Mem)} (HC : ∀ (y2 : Int) (M1 : Mem) (H : Heap) (locs : List Loc) (ls : Array Slot), o = .inl (y2, M1) → inR y2 → lv_has ls 3 [(0, .ref (ad 80)), (2, .int (i2 y2))] → WS D aC ad A H0 M1 H locs → W p l e rm_X11_rule s m args below meth c H locs 0 0 Q (F0 m 84 ls [])) (HE : ∀ (y2 : Int) (M1 : Mem) (H : Heap) (locs : List Loc) (ls : Array Slot), o = .inr (y2, M1) → inR y2 → lv_has ls 3 [(0, .ref (ad 80)), (2, .int (i2 y2))] → WS D aC ad A H0 M1 H locs → W p l e rm_X11_rule s m args below meth c H locs 0 0 Q (F0 m 141 ls [])) (v2 : Int) (hv2 : inR v2) (M : Mem) (hf : f_X11_rule_s84 v2 M = some o) {H : Heap} {locs : List Loc} {ls : Array Slot} (hl : lv_has ls 3 [(0, .ref (ad 80)), (2, .int (i2 v2))]) (w : WS D aC ad A H0 M H locs) : W p l e rm_X11_rule s m args below meth c H locs 0 0 Q (F0 m 84 ls []) := by
  have hx := X.1.1
  have hb := X.1.2.1
  unfold f_X11_rule_s84 at hf
  refine lv_iload_n hx hb dX11_rule_84 rfl (lv_at hl 1 rfl) ?_
  refine g_bipush X dX11_rule_85 (by decide) ?_
  refine g_icmp_ge (tgt := 141) X hv2 (inL rfl) dX11_rule_87 (by decide) (fun cd => ?_) (fun cd => ?_)
  · replace hf := ite_t cd hf
    exact HE v2 M _ _ _ (Option.some.inj hf).symm hv2 hl w
  · replace hf := ite_f cd hf
    refine lv_aload_n hx hb dX11_rule_90 rfl (lv_at hl 0 rfl) ?_
    refine g_getr X w fg_X11_63 KD_80 FR_80_23 dX11_rule_91 ?_
    refine lv_iload_n hx hb dX11_rule_94 rfl (lv_at hl 1 rfl) ?_
    refine lv_aload_n hx hb dX11_rule_95 rfl (lv_at hl 0 rfl) ?_
    refine g_getr X w fg_X11_63 KD_80 FR_80_23 dX11_rule_96 ?_
    refine g_bipush X dX11_rule_99 (by decide) ?_
    refine lv_iload_n hx hb dX11_rule_101 rfl (lv_at hl 1 rfl) ?_
    refine g_iadd X dX11_rule_102 ?_
    obtain ⟨hg, hf⟩ := gd_some hf
    refine g_iald X w KD_97 (inR_wrap _) hg dX11_rule_103 ?_
    obtain ⟨hg_2, hf⟩ := gd_some hf
    obtain ⟨M_2, eM_2, hf⟩ := lt_some hf
    refine g_iast X w KD_97 hv2 hg_2 (w.2.2 _ _) dX11_rule_104 (fun H locs w_M_2 => ?_)
    rw [← eM_2] at w_M_2
    refine lv_aload_n hx hb dX11_rule_105 rfl (lv_at hl 0 rfl) ?_
    refine g_getr X w_M_2 fg_X11_66 KD_80 FR_80_24 dX11_rule_106 ?_
    refine lv_iload_n hx hb dX11_rule_109 rfl (lv_at hl 1 rfl) ?_
    refine lv_aload_n hx hb dX11_rule_110 rfl (lv_at hl 0 rfl) ?_
    refine g_getr X w_M_2 fg_X11_66 KD_80 FR_80_24 dX11_rule_111 ?_
    refine g_bipush X dX11_rule_114 (by decide) ?_
    refine lv_iload_n hx hb dX11_rule_116 rfl (lv_at hl 1 rfl) ?_
    refine g_iadd X dX11_rule_117 ?_
    obtain ⟨hg_3, hf⟩ := gd_some hf
    refine g_iald X w_M_2 KD_98 (inR_wrap _) hg_3 dX11_rule_118 ?_
    obtain ⟨hg_4, hf⟩ := gd_some hf
    obtain ⟨M_3, eM_3, hf⟩ := lt_some hf
    refine g_iast X w_M_2 KD_98 hv2 hg_4 (w_M_2.2.2 _ _) dX11_rule_119 (fun H locs w_M_3 => ?_)
    rw [← eM_3] at w_M_3
    refine lv_aload_n hx hb dX11_rule_120 rfl (lv_at hl 0 rfl) ?_
    refine g_getr X w_M_3 fg_X11_69 KD_80 FR_80_25 dX11_rule_121 ?_
    refine lv_iload_n hx hb dX11_rule_124 rfl (lv_at hl 1 rfl) ?_
    refine lv_aload_n hx hb dX11_rule_125 rfl (lv_at hl 0 rfl) ?_
    refine g_getr X w_M_3 fg_X11_69 KD_80 FR_80_25 dX11_rule_126 ?_
    refine g_bipush X dX11_rule_129 (by decide) ?_
    refine lv_iload_n hx hb dX11_rule_131 rfl (lv_at hl 1 rfl) ?_
    refine g_iadd X dX11_rule_132 ?_
    obtain ⟨hg_5, hf⟩ := gd_some hf
    refine g_iald X w_M_3 KD_99 (inR_wrap _) hg_5 dX11_rule_133 ?_
    obtain ⟨hg_6, hf⟩ := gd_some hf
    obtain ⟨M_4, eM_4, hf⟩ := lt_some hf
    refine g_iast X w_M_3 KD_99 hv2 hg_6 (w_M_3.2.2 _ _) dX11_rule_134 (fun H locs w_M_4 => ?_)
    rw [← eM_4] at w_M_4
    obtain ⟨v2_2, ev2_2, hf⟩ := lt_some hf
    have hv2_2 : inR v2_2 := inR_of ev2_2 (inR_wrap _)
    refine lv_iinc (v := i2 v2_2) (lv' := [(2, .int (i2 v2_2)), (0, .ref (ad 80))]) hx hb dX11_rule_135 hl (k := 1) rfl (by rw [ev2_2]; exact i2_add _ _) (by decide) rfl (fun ls hl => ?_)
    refine lv_goto (tgt := 84) hx hb dX11_rule_138 (by decide) ?_
    exact HC v2_2 M_4 _ _ _ (Option.some.inj hf).symm hv2_2 (lv_sub hl [1, 0] rfl) w_M_4
set_option maxRecDepth 100000 in
set_option maxHeartbeats 4000000 in
theorem l_X11_rule_84 (X : CX p s m args c cX11_rule 3 RX11 D aC ad sg A H0) {out : Int × Mem} (HE : ∀ (y2 : Int) (M1 : Mem) (H : Heap) (locs : List Loc) (ls : Array Slot), out = (y2, M1) → inR y2 → lv_has ls 3 [(0, .ref (ad 80)), (2, .int (i2 y2))] → WS D aC ad A H0 M1 H locs → W p l e rm_X11_rule s m args below meth c H locs 0 0 Q (F0 m 141 ls [])) : ∀ (n : Nat) (v2 : Int) (M : Mem), whl (fun s => f_X11_rule_s84 s.1 s.2) n (v2, M) = some out → inR v2 → ∀ {H : Heap} {locs : List Loc} {ls : Array Slot}, lv_has ls 3 [(0, .ref (ad 80)), (2, .int (i2 v2))] → WS D aC ad A H0 M H locs → W p l e rm_X11_rule s m args below meth c H locs 0 0 Q (F0 m 84 ls []) := by
  intro n
  induction n with
  | zero => intro v2 M hf; exact (whl_zero hf).elim
  | succ n ih =>
    intro v2 M hf hv2 H locs ls hl w
    obtain ⟨o, hf, hk1, hk2⟩ := whl_step hf
    exact b_X11_rule_s84 X  (fun y2 M1 H locs ls eo hy2 hl w => ih y2 M1 (hk1 _ eo) hy2 hl w) (fun y2 M1 H locs ls eo hy2 hl w => HE y2 M1 H locs ls (hk2 _ eo).symm hy2 hl w) v2 hv2 M hf hl w
set_option maxRecDepth 100000 in
set_option maxHeartbeats 4000000 in
theorem b_X11_rule_s143 (X : CX p s m args c cX11_rule 3 RX11 D aC ad sg A H0) {o : (Int × Mem) ⊕ (Int × Mem)} (HC : ∀ (y2 : Int) (M1 : Mem) (H : Heap) (locs : List Loc) (ls : Array Slot), o = .inl (y2, M1) → inR y2 → lv_has ls 3 [(0, .ref (ad 80)), (2, .int (i2 y2))] → WS D aC ad A H0 M1 H locs → W p l e rm_X11_rule s m args below meth c H locs 0 0 Q (F0 m 143 ls [])) (HE : ∀ (y2 : Int) (M1 : Mem) (H : Heap) (locs : List Loc) (ls : Array Slot), o = .inr (y2, M1) → inR y2 → lv_has ls 3 [(0, .ref (ad 80)), (2, .int (i2 y2))] → WS D aC ad A H0 M1 H locs → W p l e rm_X11_rule s m args below meth c H locs 0 0 Q (F0 m 170 ls [])) (v2 : Int) (hv2 : inR v2) (M : Mem) (hf : f_X11_rule_s143 v2 M = some o) {H : Heap} {locs : List Loc} {ls : Array Slot} (hl : lv_has ls 3 [(0, .ref (ad 80)), (2, .int (i2 v2))]) (w : WS D aC ad A H0 M H locs) : W p l e rm_X11_rule s m args below meth c H locs 0 0 Q (F0 m 143 ls []) := by
  have hx := X.1.1
  have hb := X.1.2.1
  unfold f_X11_rule_s143 at hf
  refine lv_iload_n hx hb dX11_rule_143 rfl (lv_at hl 1 rfl) ?_
  refine g_bipush X dX11_rule_144 (by decide) ?_
  refine g_icmp_ge (tgt := 170) X hv2 (inL rfl) dX11_rule_146 (by decide) (fun cd => ?_) (fun cd => ?_)
  · replace hf := ite_t cd hf
    exact HE v2 M _ _ _ (Option.some.inj hf).symm hv2 hl w
  · replace hf := ite_f cd hf
    refine lv_aload_n hx hb dX11_rule_149 rfl (lv_at hl 0 rfl) ?_
    refine g_getr X w fg_X11_72 KD_80 FR_80_26 dX11_rule_150 ?_
    refine lv_iload_n hx hb dX11_rule_153 rfl (lv_at hl 1 rfl) ?_
    refine lv_aload_n hx hb dX11_rule_154 rfl (lv_at hl 0 rfl) ?_
    refine g_getr X w fg_X11_72 KD_80 FR_80_26 dX11_rule_155 ?_
    refine g_bipush X dX11_rule_158 (by decide) ?_
    refine lv_iload_n hx hb dX11_rule_160 rfl (lv_at hl 1 rfl) ?_
    refine g_iadd X dX11_rule_161 ?_
    obtain ⟨hg, hf⟩ := gd_some hf
    refine g_iald X w KD_100 (inR_wrap _) hg dX11_rule_162 ?_
    obtain ⟨hg_2, hf⟩ := gd_some hf
    obtain ⟨M_2, eM_2, hf⟩ := lt_some hf
    refine g_iast X w KD_100 hv2 hg_2 (w.2.2 _ _) dX11_rule_163 (fun H locs w_M_2 => ?_)
    rw [← eM_2] at w_M_2
    obtain ⟨v2_2, ev2_2, hf⟩ := lt_some hf
    have hv2_2 : inR v2_2 := inR_of ev2_2 (inR_wrap _)
    refine lv_iinc (v := i2 v2_2) (lv' := [(2, .int (i2 v2_2)), (0, .ref (ad 80))]) hx hb dX11_rule_164 hl (k := 1) rfl (by rw [ev2_2]; exact i2_add _ _) (by decide) rfl (fun ls hl => ?_)
    refine lv_goto (tgt := 143) hx hb dX11_rule_167 (by decide) ?_
    exact HC v2_2 M_2 _ _ _ (Option.some.inj hf).symm hv2_2 (lv_sub hl [1, 0] rfl) w_M_2
set_option maxRecDepth 100000 in
set_option maxHeartbeats 4000000 in
theorem l_X11_rule_143 (X : CX p s m args c cX11_rule 3 RX11 D aC ad sg A H0) {out : Int × Mem} (HE : ∀ (y2 : Int) (M1 : Mem) (H : Heap) (locs : List Loc) (ls : Array Slot), out = (y2, M1) → inR y2 → lv_has ls 3 [(0, .ref (ad 80)), (2, .int (i2 y2))] → WS D aC ad A H0 M1 H locs → W p l e rm_X11_rule s m args below meth c H locs 0 0 Q (F0 m 170 ls [])) : ∀ (n : Nat) (v2 : Int) (M : Mem), whl (fun s => f_X11_rule_s143 s.1 s.2) n (v2, M) = some out → inR v2 → ∀ {H : Heap} {locs : List Loc} {ls : Array Slot}, lv_has ls 3 [(0, .ref (ad 80)), (2, .int (i2 v2))] → WS D aC ad A H0 M H locs → W p l e rm_X11_rule s m args below meth c H locs 0 0 Q (F0 m 143 ls []) := by
  intro n
  induction n with
  | zero => intro v2 M hf; exact (whl_zero hf).elim
  | succ n ih =>
    intro v2 M hf hv2 H locs ls hl w
    obtain ⟨o, hf, hk1, hk2⟩ := whl_step hf
    exact b_X11_rule_s143 X  (fun y2 M1 H locs ls eo hy2 hl w => ih y2 M1 (hk1 _ eo) hy2 hl w) (fun y2 M1 H locs ls eo hy2 hl w => HE y2 M1 H locs ls (hk2 _ eo).symm hy2 hl w) v2 hv2 M hf hl w
set_option maxRecDepth 100000 in
set_option maxHeartbeats 4000000 in
theorem b_X11_rule_s172 (X : CX p s m args c cX11_rule 3 RX11 D aC ad sg A H0) {o : (Int × Mem) ⊕ (Int × Mem)} (HC : ∀ (y2 : Int) (M1 : Mem) (H : Heap) (locs : List Loc) (ls : Array Slot), o = .inl (y2, M1) → inR y2 → lv_has ls 3 [(0, .ref (ad 80)), (2, .int (i2 y2))] → WS D aC ad A H0 M1 H locs → W p l e rm_X11_rule s m args below meth c H locs 0 0 Q (F0 m 172 ls [])) (HE : ∀ (y2 : Int) (M1 : Mem) (H : Heap) (locs : List Loc) (ls : Array Slot), o = .inr (y2, M1) → inR y2 → lv_has ls 3 [(0, .ref (ad 80)), (2, .int (i2 y2))] → WS D aC ad A H0 M1 H locs → W p l e rm_X11_rule s m args below meth c H locs 0 0 Q (F0 m 249 ls [])) (v2 : Int) (hv2 : inR v2) (M : Mem) (hf : f_X11_rule_s172 v2 M = some o) {H : Heap} {locs : List Loc} {ls : Array Slot} (hl : lv_has ls 3 [(0, .ref (ad 80)), (2, .int (i2 v2))]) (w : WS D aC ad A H0 M H locs) : W p l e rm_X11_rule s m args below meth c H locs 0 0 Q (F0 m 172 ls []) := by
  have hx := X.1.1
  have hb := X.1.2.1
  unfold f_X11_rule_s172 at hf
  refine lv_iload_n hx hb dX11_rule_172 rfl (lv_at hl 1 rfl) ?_
  refine g_sipush X dX11_rule_173 (by decide) ?_
  refine g_icmp_ge (tgt := 249) X hv2 (inL rfl) dX11_rule_176 (by decide) (fun cd => ?_) (fun cd => ?_)
  · replace hf := ite_t cd hf
    exact HE v2 M _ _ _ (Option.some.inj hf).symm hv2 hl w
  · replace hf := ite_f cd hf
    refine lv_aload_n hx hb dX11_rule_179 rfl (lv_at hl 0 rfl) ?_
    refine g_getr X w fg_X11_75 KD_80 FR_80_27 dX11_rule_180 ?_
    refine lv_iload_n hx hb dX11_rule_183 rfl (lv_at hl 1 rfl) ?_
    refine lv_aload_n hx hb dX11_rule_184 rfl (lv_at hl 0 rfl) ?_
    refine g_getr X w fg_X11_75 KD_80 FR_80_27 dX11_rule_185 ?_
    refine g_sipush X dX11_rule_188 (by decide) ?_
    refine lv_iload_n hx hb dX11_rule_191 rfl (lv_at hl 1 rfl) ?_
    refine g_iadd X dX11_rule_192 ?_
    obtain ⟨hg, hf⟩ := gd_some hf
    refine g_zald X w KD_101 (inR_wrap _) hg dX11_rule_193 ?_
    obtain ⟨hg_2, hf⟩ := gd_some hf
    obtain ⟨hz, hf⟩ := gd_some hf
    obtain ⟨M_2, eM_2, hf⟩ := lt_some hf
    refine g_zast X w KD_101 hv2 hg_2 hz dX11_rule_194 (fun H locs w_M_2 => ?_)
    rw [← eM_2] at w_M_2
    refine lv_aload_n hx hb dX11_rule_195 rfl (lv_at hl 0 rfl) ?_
    refine g_getr X w_M_2 fg_X11_78 KD_80 FR_80_28 dX11_rule_196 ?_
    refine lv_iload_n hx hb dX11_rule_199 rfl (lv_at hl 1 rfl) ?_
    refine lv_aload_n hx hb dX11_rule_200 rfl (lv_at hl 0 rfl) ?_
    refine g_getr X w_M_2 fg_X11_78 KD_80 FR_80_28 dX11_rule_201 ?_
    refine g_sipush X dX11_rule_204 (by decide) ?_
    refine lv_iload_n hx hb dX11_rule_207 rfl (lv_at hl 1 rfl) ?_
    refine g_iadd X dX11_rule_208 ?_
    obtain ⟨hg_3, hf⟩ := gd_some hf
    refine g_iald X w_M_2 KD_102 (inR_wrap _) hg_3 dX11_rule_209 ?_
    obtain ⟨hg_4, hf⟩ := gd_some hf
    obtain ⟨M_3, eM_3, hf⟩ := lt_some hf
    refine g_iast X w_M_2 KD_102 hv2 hg_4 (w_M_2.2.2 _ _) dX11_rule_210 (fun H locs w_M_3 => ?_)
    rw [← eM_3] at w_M_3
    refine lv_aload_n hx hb dX11_rule_211 rfl (lv_at hl 0 rfl) ?_
    refine g_getr X w_M_3 fg_X11_81 KD_80 FR_80_29 dX11_rule_212 ?_
    refine lv_iload_n hx hb dX11_rule_215 rfl (lv_at hl 1 rfl) ?_
    refine lv_aload_n hx hb dX11_rule_216 rfl (lv_at hl 0 rfl) ?_
    refine g_getr X w_M_3 fg_X11_81 KD_80 FR_80_29 dX11_rule_217 ?_
    refine g_sipush X dX11_rule_220 (by decide) ?_
    refine lv_iload_n hx hb dX11_rule_223 rfl (lv_at hl 1 rfl) ?_
    refine g_iadd X dX11_rule_224 ?_
    obtain ⟨hg_5, hf⟩ := gd_some hf
    refine g_iald X w_M_3 KD_103 (inR_wrap _) hg_5 dX11_rule_225 ?_
    obtain ⟨hg_6, hf⟩ := gd_some hf
    obtain ⟨M_4, eM_4, hf⟩ := lt_some hf
    refine g_iast X w_M_3 KD_103 hv2 hg_6 (w_M_3.2.2 _ _) dX11_rule_226 (fun H locs w_M_4 => ?_)
    rw [← eM_4] at w_M_4
    refine lv_aload_n hx hb dX11_rule_227 rfl (lv_at hl 0 rfl) ?_
    refine g_getr X w_M_4 fg_X11_84 KD_80 FR_80_30 dX11_rule_228 ?_
    refine lv_iload_n hx hb dX11_rule_231 rfl (lv_at hl 1 rfl) ?_
    refine lv_aload_n hx hb dX11_rule_232 rfl (lv_at hl 0 rfl) ?_
    refine g_getr X w_M_4 fg_X11_84 KD_80 FR_80_30 dX11_rule_233 ?_
    refine g_sipush X dX11_rule_236 (by decide) ?_
    refine lv_iload_n hx hb dX11_rule_239 rfl (lv_at hl 1 rfl) ?_
    refine g_iadd X dX11_rule_240 ?_
    obtain ⟨hg_7, hf⟩ := gd_some hf
    refine g_iald X w_M_4 KD_104 (inR_wrap _) hg_7 dX11_rule_241 ?_
    obtain ⟨hg_8, hf⟩ := gd_some hf
    obtain ⟨M_5, eM_5, hf⟩ := lt_some hf
    refine g_iast X w_M_4 KD_104 hv2 hg_8 (w_M_4.2.2 _ _) dX11_rule_242 (fun H locs w_M_5 => ?_)
    rw [← eM_5] at w_M_5
    obtain ⟨v2_2, ev2_2, hf⟩ := lt_some hf
    have hv2_2 : inR v2_2 := inR_of ev2_2 (inR_wrap _)
    refine lv_iinc (v := i2 v2_2) (lv' := [(2, .int (i2 v2_2)), (0, .ref (ad 80))]) hx hb dX11_rule_243 hl (k := 1) rfl (by rw [ev2_2]; exact i2_add _ _) (by decide) rfl (fun ls hl => ?_)
    refine lv_goto (tgt := 172) hx hb dX11_rule_246 (by decide) ?_
    exact HC v2_2 M_5 _ _ _ (Option.some.inj hf).symm hv2_2 (lv_sub hl [1, 0] rfl) w_M_5
set_option maxRecDepth 100000 in
set_option maxHeartbeats 4000000 in
theorem l_X11_rule_172 (X : CX p s m args c cX11_rule 3 RX11 D aC ad sg A H0) {out : Int × Mem} (HE : ∀ (y2 : Int) (M1 : Mem) (H : Heap) (locs : List Loc) (ls : Array Slot), out = (y2, M1) → inR y2 → lv_has ls 3 [(0, .ref (ad 80)), (2, .int (i2 y2))] → WS D aC ad A H0 M1 H locs → W p l e rm_X11_rule s m args below meth c H locs 0 0 Q (F0 m 249 ls [])) : ∀ (n : Nat) (v2 : Int) (M : Mem), whl (fun s => f_X11_rule_s172 s.1 s.2) n (v2, M) = some out → inR v2 → ∀ {H : Heap} {locs : List Loc} {ls : Array Slot}, lv_has ls 3 [(0, .ref (ad 80)), (2, .int (i2 v2))] → WS D aC ad A H0 M H locs → W p l e rm_X11_rule s m args below meth c H locs 0 0 Q (F0 m 172 ls []) := by
  intro n
  induction n with
  | zero => intro v2 M hf; exact (whl_zero hf).elim
  | succ n ih =>
    intro v2 M hf hv2 H locs ls hl w
    obtain ⟨o, hf, hk1, hk2⟩ := whl_step hf
    exact b_X11_rule_s172 X  (fun y2 M1 H locs ls eo hy2 hl w => ih y2 M1 (hk1 _ eo) hy2 hl w) (fun y2 M1 H locs ls eo hy2 hl w => HE y2 M1 H locs ls (hk2 _ eo).symm hy2 hl w) v2 hv2 M hf hl w
set_option maxRecDepth 100000 in
set_option maxHeartbeats 4000000 in
theorem b_X11_rule_j249 (X : CX p s m args c cX11_rule 3 RX11 D aC ad sg A H0) {o : Int × Mem} (HR : ∀ (r : Int) (M1 : Mem) (H : Heap) (locs : List Loc) (pc : Nat) (ls : Array Slot), o = (r, M1) → inR r → WS D aC ad A H0 M1 H locs → decode cX11_rule pc = .ok (.ireturn, 1) → W p l e rm_X11_rule s m args below meth c H locs 0 0 Q (F0 m pc ls [.int (i2 r)])) (M : Mem) (hf : f_X11_rule_j249 M = some o) {H : Heap} {locs : List Loc} {ls : Array Slot} (hl : lv_has ls 3 [(0, .ref (ad 80))]) (w : WS D aC ad A H0 M H locs) : W p l e rm_X11_rule s m args below meth c H locs 0 0 Q (F0 m 249 ls []) := by
  have hx := X.1.1
  have hb := X.1.2.1
  unfold f_X11_rule_j249 at hf
  refine lv_aload_n hx hb dX11_rule_249 rfl (lv_at hl 0 rfl) ?_
  refine g_geti X w fg_X11_307 KD_80 FR_80_21 dX11_rule_250 ?_
  exact HR (M 80 21) M _ _ _ _ (Option.some.inj hf).symm (w.2.2 _ _) w dX11_rule_253
set_option maxRecDepth 100000 in
set_option maxHeartbeats 4000000 in
theorem b_X11_rule_j170 (X : CX p s m args c cX11_rule 3 RX11 D aC ad sg A H0) {o : Int × Mem} (HR : ∀ (r : Int) (M1 : Mem) (H : Heap) (locs : List Loc) (pc : Nat) (ls : Array Slot), o = (r, M1) → inR r → WS D aC ad A H0 M1 H locs → decode cX11_rule pc = .ok (.ireturn, 1) → W p l e rm_X11_rule s m args below meth c H locs 0 0 Q (F0 m pc ls [.int (i2 r)])) (M : Mem) (hf : f_X11_rule_j170 M = some o) {H : Heap} {locs : List Loc} {ls : Array Slot} (hl : lv_has ls 3 [(0, .ref (ad 80))]) (w : WS D aC ad A H0 M H locs) : W p l e rm_X11_rule s m args below meth c H locs 0 0 Q (F0 m 170 ls []) := by
  have hx := X.1.1
  have hb := X.1.2.1
  unfold f_X11_rule_j170 at hf
  refine g_iconst X dX11_rule_170 ?_
  refine g_istn (v := 0) (lv' := [(2, .int (i2 0)), (0, .ref (ad 80))]) X rfl dX11_rule_171 rfl hl (by decide) rfl (fun ls hl => ?_)
  obtain ⟨q, hq, h1⟩ := obn_some hf
  exact l_X11_rule_172 X  (out := q) (fun y2 M1 H locs ls eq hy2 hl w => b_X11_rule_j249 X  HR M1 (by subst eq; exact h1) (lv_sub hl [0] rfl) w)  FU 0 M hq (inL rfl) (lv_sub hl [1, 0] rfl) w
set_option maxRecDepth 100000 in
set_option maxHeartbeats 4000000 in
theorem b_X11_rule_j141 (X : CX p s m args c cX11_rule 3 RX11 D aC ad sg A H0) {o : Int × Mem} (HR : ∀ (r : Int) (M1 : Mem) (H : Heap) (locs : List Loc) (pc : Nat) (ls : Array Slot), o = (r, M1) → inR r → WS D aC ad A H0 M1 H locs → decode cX11_rule pc = .ok (.ireturn, 1) → W p l e rm_X11_rule s m args below meth c H locs 0 0 Q (F0 m pc ls [.int (i2 r)])) (M : Mem) (hf : f_X11_rule_j141 M = some o) {H : Heap} {locs : List Loc} {ls : Array Slot} (hl : lv_has ls 3 [(0, .ref (ad 80))]) (w : WS D aC ad A H0 M H locs) : W p l e rm_X11_rule s m args below meth c H locs 0 0 Q (F0 m 141 ls []) := by
  have hx := X.1.1
  have hb := X.1.2.1
  unfold f_X11_rule_j141 at hf
  refine g_iconst X dX11_rule_141 ?_
  refine g_istn (v := 0) (lv' := [(2, .int (i2 0)), (0, .ref (ad 80))]) X rfl dX11_rule_142 rfl hl (by decide) rfl (fun ls hl => ?_)
  obtain ⟨q, hq, h1⟩ := obn_some hf
  exact l_X11_rule_143 X  (out := q) (fun y2 M1 H locs ls eq hy2 hl w => b_X11_rule_j170 X  HR M1 (by subst eq; exact h1) (lv_sub hl [0] rfl) w)  FU 0 M hq (inL rfl) (lv_sub hl [1, 0] rfl) w
set_option maxRecDepth 100000 in
set_option maxHeartbeats 4000000 in
theorem b_X11_rule_j50 (X : CX p s m args c cX11_rule 3 RX11 D aC ad sg A H0) {o : Int × Mem} (HR : ∀ (r : Int) (M1 : Mem) (H : Heap) (locs : List Loc) (pc : Nat) (ls : Array Slot), o = (r, M1) → inR r → WS D aC ad A H0 M1 H locs → decode cX11_rule pc = .ok (.ireturn, 1) → W p l e rm_X11_rule s m args below meth c H locs 0 0 Q (F0 m pc ls [.int (i2 r)])) (M : Mem) (hf : f_X11_rule_j50 M = some o) {H : Heap} {locs : List Loc} {ls : Array Slot} (hl : lv_has ls 3 [(0, .ref (ad 80))]) (w : WS D aC ad A H0 M H locs) : W p l e rm_X11_rule s m args below meth c H locs 0 0 Q (F0 m 50 ls []) := by
  have hx := X.1.1
  have hb := X.1.2.1
  unfold f_X11_rule_j50 at hf
  refine lv_aload_n hx hb dX11_rule_50 rfl (lv_at hl 0 rfl) ?_
  refine g_iconst X dX11_rule_51 ?_
  obtain ⟨M_2, eM_2, hf⟩ := lt_some hf
  refine g_puti X w fp_X11_210 KD_80 FR_80_32 (inL rfl) dX11_rule_52 (fun H locs w_M_2 => ?_)
  rw [← eM_2] at w_M_2
  refine lv_aload_n hx hb dX11_rule_55 rfl (lv_at hl 0 rfl) ?_
  refine g_geti X w_M_2 fg_X11_245 KD_80 FR_80_33 dX11_rule_56 ?_
  refine g_if_le (tgt := 69) X (w_M_2.2.2 _ _) dX11_rule_59 (by decide) (fun cd => ?_) (fun cd => ?_)
  · replace hf := ite_t cd hf
    refine lv_aload_n hx hb dX11_rule_69 rfl (lv_at hl 0 rfl) ?_
    refine lv_aload_n hx hb dX11_rule_70 rfl (lv_at hl 0 rfl) ?_
    refine g_geti X w_M_2 fg_X11_283 KD_80 FR_80_22 dX11_rule_71 ?_
    obtain ⟨M_3, eM_3, hf⟩ := lt_some hf
    refine g_puti X w_M_2 fp_X11_307 KD_80 FR_80_21 (w_M_2.2.2 _ _) dX11_rule_74 (fun H locs w_M_3 => ?_)
    rw [← eM_3] at w_M_3
    refine lv_aload_n hx hb dX11_rule_77 rfl (lv_at hl 0 rfl) ?_
    refine g_iconst X dX11_rule_78 ?_
    obtain ⟨M_4, eM_4, hf⟩ := lt_some hf
    refine g_putz X w_M_3 fp_X11_156 KD_80 FR_80_43 (Or.inl rfl) dX11_rule_79 (fun H locs w_M_4 => ?_)
    rw [← eM_4] at w_M_4
    refine g_iconst X dX11_rule_82 ?_
    refine g_istn (v := 0) (lv' := [(2, .int (i2 0)), (0, .ref (ad 80))]) X rfl dX11_rule_83 rfl hl (by decide) rfl (fun ls hl => ?_)
    obtain ⟨q, hq, h1⟩ := obn_some hf
    exact l_X11_rule_84 X  (out := q) (fun y2 M1 H locs ls eq hy2 hl w => b_X11_rule_j141 X  HR M1 (by subst eq; exact h1) (lv_sub hl [0] rfl) w)  FU 0 M_4 hq (inL rfl) (lv_sub hl [1, 0] rfl) w_M_4
  · replace hf := ite_f cd hf
    refine g_iconst X dX11_rule_62 ?_
    refine lv_aload_n hx hb dX11_rule_63 rfl (lv_at hl 0 rfl) ?_
    refine g_geti X w_M_2 fg_X11_245 KD_80 FR_80_33 dX11_rule_64 ?_
    refine g_isub X dX11_rule_67 ?_
    exact HR (wrap ((-1) - (M_2 80 33))) M_2 _ _ _ _ (Option.some.inj hf).symm (inR_wrap _) w_M_2 dX11_rule_68
set_option maxRecDepth 100000 in
set_option maxHeartbeats 4000000 in
theorem b_X11_rule_0 (X : CX p s m args c cX11_rule 3 RX11 D aC ad sg A H0) {o : Int × Mem} (HR : ∀ (r : Int) (M1 : Mem) (H : Heap) (locs : List Loc) (pc : Nat) (ls : Array Slot), o = (r, M1) → inR r → WS D aC ad A H0 M1 H locs → decode cX11_rule pc = .ok (.ireturn, 1) → W p l e rm_X11_rule s m args below meth c H locs 0 0 Q (F0 m pc ls [.int (i2 r)])) (M : Mem) (hf : f_X11_rule M = some o) {H : Heap} {locs : List Loc} {ls : Array Slot} (hl : lv_has ls 3 [(0, .ref (ad 80))]) (w : WS D aC ad A H0 M H locs) : W p l e rm_X11_rule s m args below meth c H locs 0 0 Q (F0 m 0 ls []) := by
  have hx := X.1.1
  have hb := X.1.2.1
  unfold f_X11_rule at hf
  refine lv_aload_n hx hb dX11_rule_0 rfl (lv_at hl 0 rfl) ?_
  refine g_iconst X dX11_rule_1 ?_
  obtain ⟨M_2, eM_2, hf⟩ := lt_some hf
  refine g_puti X w fp_X11_139 KD_80 FR_80_0 (inL rfl) dX11_rule_2 (fun H locs w_M_2 => ?_)
  rw [← eM_2] at w_M_2
  refine lv_aload_n hx hb dX11_rule_5 rfl (lv_at hl 0 rfl) ?_
  refine g_iconst X dX11_rule_6 ?_
  obtain ⟨M_3, eM_3, hf⟩ := lt_some hf
  refine g_puti X w_M_2 fp_X11_245 KD_80 FR_80_33 (inL rfl) dX11_rule_7 (fun H locs w_M_3 => ?_)
  rw [← eM_3] at w_M_3
  refine lv_aload_n hx hb dX11_rule_10 rfl (lv_at hl 0 rfl) ?_
  refine g_iconst X dX11_rule_11 ?_
  obtain ⟨M_4, eM_4, hf⟩ := lt_some hf
  refine g_puti X w_M_3 fp_X11_91 KD_80 FR_80_34 (inL rfl) dX11_rule_12 (fun H locs w_M_4 => ?_)
  rw [← eM_4] at w_M_4
  refine lv_aload_n hx hb dX11_rule_15 rfl (lv_at hl 0 rfl) ?_
  refine g_iconst X dX11_rule_16 ?_
  obtain ⟨M_5, eM_5, hf⟩ := lt_some hf
  refine g_puti X w_M_4 fp_X11_283 KD_80 FR_80_22 (inL rfl) dX11_rule_17 (fun H locs w_M_5 => ?_)
  rw [← eM_5] at w_M_5
  refine lv_aload_n hx hb dX11_rule_20 rfl (lv_at hl 0 rfl) ?_
  refine g_iconst X dX11_rule_21 ?_
  obtain ⟨M_6, eM_6, hf⟩ := lt_some hf
  refine g_puti X w_M_5 fp_X11_213 KD_80 FR_80_36 (inL rfl) dX11_rule_22 (fun H locs w_M_6 => ?_)
  rw [← eM_6] at w_M_6
  refine lv_aload_n hx hb dX11_rule_25 rfl (lv_at hl 0 rfl) ?_
  obtain ⟨M_7, hc, hf⟩ := obn_some hf
  refine g_cvv (As := []) (rest := []) X w_M_6 (k_X11_next X.2.2.1  w_M_6.2.2 hc) lk_X11_262 cl_11 KD_80 ⟨rfl, rfl⟩ ⟨nle rfl, nle rfl⟩ ⟨nle rfl, nle rfl⟩ hl.1 rfl (nle rfl) dX11_rule_26 (fun H locs w_M_7 => ?_)
  refine g_iconst X dX11_rule_29 ?_
  refine g_istn (v := 1) (lv' := [(1, .int (i2 1)), (0, .ref (ad 80))]) X rfl dX11_rule_30 rfl hl (by decide) rfl (fun ls hl => ?_)
  obtain ⟨q, hq, h1⟩ := obn_some hf
  exact l_X11_rule_31 X  (out := q) (fun y1 M1 H locs ls eq hy1 hl w => b_X11_rule_j50 X  HR M1 (by subst eq; exact h1) (lv_sub hl [0] rfl) w)  FU 1 M_7 hq (inL rfl) (lv_sub hl [1, 0] rfl) w_M_7
set_option maxRecDepth 100000 in
set_option maxHeartbeats 4000000 in
theorem k_X11_rule {l : Launch} {D : va_G} {aC : Nat → ClassId} {ad : Nat → Nat} {sg : SG} (hi : Inj ad)  {M : Mem} (hM : inM M) {r : Int} {M' : Mem} (hf : f_X11_rule M = some (r, M')) : MetI l D aC ad sg yX11_rule cX11_rule 3 (some .int) rm_X11_rule 0 0 [.ref (ad 80)] M r M' := by
  refine MetI.ofI (by decide +kernel) (nle rfl) hi hM (fun p e s m args below meth c Q H0 ls X hl w hret => ?_)
  exact b_X11_rule_0 X  (fun r1 M1 H locs pc ls eo hP w dg => by cases eo; exact hret H locs pc ls hP w dg) M hf hl w
set_option maxRecDepth 100000 in
set_option maxHeartbeats 4000000 in
theorem b_X11_place_0 (X : CX p s m args c cX11_place 1 RX11 D aC ad sg A H0) {o : Int × Mem} (HR : ∀ (r : Int) (M1 : Mem) (H : Heap) (locs : List Loc) (pc : Nat) (ls : Array Slot), o = (r, M1) → inR r → WS D aC ad A H0 M1 H locs → decode cX11_place pc = .ok (.ireturn, 1) → W p l e rm_X11_place s m args below meth c H locs 0 0 Q (F0 m pc ls [.int (i2 r)])) (M : Mem) (hf : f_X11_place M = some o) {H : Heap} {locs : List Loc} {ls : Array Slot} (hl : lv_has ls 1 [(0, .ref (ad 80))]) (w : WS D aC ad A H0 M H locs) : W p l e rm_X11_place s m args below meth c H locs 0 0 Q (F0 m 0 ls []) := by
  have hx := X.1.1
  have hb := X.1.2.1
  unfold f_X11_place at hf
  refine lv_aload_n hx hb dX11_place_0 rfl (lv_at hl 0 rfl) ?_
  refine g_iconst X dX11_place_1 ?_
  obtain ⟨M_2, eM_2, hf⟩ := lt_some hf
  refine g_puti X w fp_X11_139 KD_80 FR_80_0 (inL rfl) dX11_place_2 (fun H locs w_M_2 => ?_)
  rw [← eM_2] at w_M_2
  refine lv_aload_n hx hb dX11_place_5 rfl (lv_at hl 0 rfl) ?_
  refine g_geti X w_M_2 fg_X11_91 KD_80 FR_80_34 dX11_place_6 ?_
  exact HR (M_2 80 34) M_2 _ _ _ _ (Option.some.inj hf).symm (w_M_2.2.2 _ _) w_M_2 dX11_place_9
set_option maxRecDepth 100000 in
set_option maxHeartbeats 4000000 in
theorem k_X11_place {l : Launch} {D : va_G} {aC : Nat → ClassId} {ad : Nat → Nat} {sg : SG} (hi : Inj ad)  {M : Mem} (hM : inM M) {r : Int} {M' : Mem} (hf : f_X11_place M = some (r, M')) : MetI l D aC ad sg yX11_place cX11_place 1 (some .int) rm_X11_place 0 0 [.ref (ad 80)] M r M' := by
  refine MetI.ofI (by decide +kernel) (nle rfl) hi hM (fun p e s m args below meth c Q H0 ls X hl w hret => ?_)
  exact b_X11_place_0 X  (fun r1 M1 H locs pc ls eo hP w dg => by cases eo; exact hret H locs pc ls hP w dg) M hf hl w
set_option maxRecDepth 100000 in
set_option maxHeartbeats 4000000 in
theorem b_X11_raw_s6 (X : CX p s m args c cX11_raw 7 RX11 D aC ad sg A H0) (v1 : Int) (hv1 : inR v1) (v2 : Int) (hv2 : inR v2) (v3 : Int) (hv3 : inR v3) (v4 : Int) (hv4 : inR v4) {M : Mem} {o : (Int × Int) ⊕ (Int × Int)} (HC : ∀ (y5 : Int) (y6 : Int) (H : Heap) (locs : List Loc) (ls : Array Slot), o = .inl (y5, y6) → inR y5 → inR y6 → lv_has ls 7 [(0, .ref (ad 80)), (1, .int (i2 v1)), (2, .int (i2 v2)), (3, .int (i2 v3)), (4, .int (i2 v4)), (5, .int (i2 y5)), (6, .int (i2 y6))] → WS D aC ad A H0 M H locs → W p l e rm_X11_raw s m args below meth c H locs 0 0 Q (F0 m 6 ls [])) (HE : ∀ (y5 : Int) (y6 : Int) (H : Heap) (locs : List Loc) (ls : Array Slot), o = .inr (y5, y6) → inR y5 → inR y6 → lv_has ls 7 [(0, .ref (ad 80)), (1, .int (i2 v1)), (2, .int (i2 v2)), (3, .int (i2 v3)), (4, .int (i2 v4)), (5, .int (i2 y5)), (6, .int (i2 y6))] → WS D aC ad A H0 M H locs → W p l e rm_X11_raw s m args below meth c H locs 0 0 Q (F0 m 75 ls [])) (v5 : Int) (hv5 : inR v5) (v6 : Int) (hv6 : inR v6) (hf : f_X11_raw_s6 v1 v2 v3 v4 M v5 v6 = some o) {H : Heap} {locs : List Loc} {ls : Array Slot} (hl : lv_has ls 7 [(0, .ref (ad 80)), (1, .int (i2 v1)), (2, .int (i2 v2)), (3, .int (i2 v3)), (4, .int (i2 v4)), (5, .int (i2 v5)), (6, .int (i2 v6))]) (w : WS D aC ad A H0 M H locs) : W p l e rm_X11_raw s m args below meth c H locs 0 0 Q (F0 m 6 ls []) := by
  have hx := X.1.1
  have hb := X.1.2.1
  unfold f_X11_raw_s6 at hf
  refine lv_iload hx hb dX11_raw_6 (lv_at hl 6 rfl) ?_
  refine lv_aload_n hx hb dX11_raw_8 rfl (lv_at hl 0 rfl) ?_
  refine g_geti X w fg_X11_168 KD_80 FR_80_15 dX11_raw_9 ?_
  refine g_icmp_ge (tgt := 75) X hv6 (w.2.2 _ _) dX11_raw_12 (by decide) (fun cd => ?_) (fun cd => ?_)
  · replace hf := ite_t cd hf
    exact HE v5 v6 _ _ _ (Option.some.inj hf).symm hv5 hv6 hl w
  · replace hf := ite_f cd hf
    refine lv_aload_n hx hb dX11_raw_15 rfl (lv_at hl 0 rfl) ?_
    refine g_getr X w fg_X11_48 KD_80 FR_80_16 dX11_raw_16 ?_
    refine lv_iload hx hb dX11_raw_19 (lv_at hl 6 rfl) ?_
    obtain ⟨hg, hf⟩ := gd_some hf
    refine g_iald X w KD_92 hv6 hg dX11_raw_21 ?_
    refine lv_iload_n hx hb dX11_raw_22 rfl (lv_at hl 1 rfl) ?_
    refine g_icmp_ne (tgt := 69) X (w.2.2 _ _) hv1 dX11_raw_23 (by decide) (fun cd_2 => ?_) (fun cd_2 => ?_)
    · replace hf := ite_f cd_2 hf
      obtain ⟨v6_2, ev6_2, hf⟩ := lt_some hf
      have hv6_2 : inR v6_2 := inR_of ev6_2 (inR_wrap _)
      refine lv_iinc (v := i2 v6_2) (lv' := [(6, .int (i2 v6_2)), (0, .ref (ad 80)), (1, .int (i2 v1)), (2, .int (i2 v2)), (3, .int (i2 v3)), (4, .int (i2 v4)), (5, .int (i2 v5))]) hx hb dX11_raw_69 hl (k := 6) rfl (by rw [ev6_2]; exact i2_add _ _) (by decide) rfl (fun ls hl => ?_)
      refine lv_goto (tgt := 6) hx hb dX11_raw_72 (by decide) ?_
      exact HC v5 v6_2 _ _ _ (Option.some.inj hf).symm hv5 hv6_2 (lv_sub hl [1, 2, 3, 4, 5, 6, 0] rfl) w
    · replace hf := ite_t cd_2 hf
      refine lv_aload_n hx hb dX11_raw_26 rfl (lv_at hl 0 rfl) ?_
      refine g_getr X w fg_X11_51 KD_80 FR_80_17 dX11_raw_27 ?_
      refine lv_iload hx hb dX11_raw_30 (lv_at hl 6 rfl) ?_
      obtain ⟨hg_2, hf⟩ := gd_some hf
      refine g_iald X w KD_93 hv6 hg_2 dX11_raw_32 ?_
      refine lv_iload_n hx hb dX11_raw_33 rfl (lv_at hl 2 rfl) ?_
      refine g_icmp_ne (tgt := 69) X (w.2.2 _ _) hv2 dX11_raw_34 (by decide) (fun cd_3 => ?_) (fun cd_3 => ?_)
      · replace hf := ite_f cd_3 hf
        obtain ⟨v6_3, ev6_3, hf⟩ := lt_some hf
        have hv6_3 : inR v6_3 := inR_of ev6_3 (inR_wrap _)
        refine lv_iinc (v := i2 v6_3) (lv' := [(6, .int (i2 v6_3)), (0, .ref (ad 80)), (1, .int (i2 v1)), (2, .int (i2 v2)), (3, .int (i2 v3)), (4, .int (i2 v4)), (5, .int (i2 v5))]) hx hb dX11_raw_69 hl (k := 6) rfl (by rw [ev6_3]; exact i2_add _ _) (by decide) rfl (fun ls hl => ?_)
        refine lv_goto (tgt := 6) hx hb dX11_raw_72 (by decide) ?_
        exact HC v5 v6_3 _ _ _ (Option.some.inj hf).symm hv5 hv6_3 (lv_sub hl [1, 2, 3, 4, 5, 6, 0] rfl) w
      · replace hf := ite_t cd_3 hf
        refine lv_aload_n hx hb dX11_raw_37 rfl (lv_at hl 0 rfl) ?_
        refine g_getr X w fg_X11_54 KD_80 FR_80_18 dX11_raw_38 ?_
        refine lv_iload hx hb dX11_raw_41 (lv_at hl 6 rfl) ?_
        obtain ⟨hg_3, hf⟩ := gd_some hf
        refine g_iald X w KD_94 hv6 hg_3 dX11_raw_43 ?_
        refine lv_iload_n hx hb dX11_raw_44 rfl (lv_at hl 3 rfl) ?_
        refine g_icmp_ne (tgt := 69) X (w.2.2 _ _) hv3 dX11_raw_45 (by decide) (fun cd_4 => ?_) (fun cd_4 => ?_)
        · replace hf := ite_f cd_4 hf
          obtain ⟨v6_4, ev6_4, hf⟩ := lt_some hf
          have hv6_4 : inR v6_4 := inR_of ev6_4 (inR_wrap _)
          refine lv_iinc (v := i2 v6_4) (lv' := [(6, .int (i2 v6_4)), (0, .ref (ad 80)), (1, .int (i2 v1)), (2, .int (i2 v2)), (3, .int (i2 v3)), (4, .int (i2 v4)), (5, .int (i2 v5))]) hx hb dX11_raw_69 hl (k := 6) rfl (by rw [ev6_4]; exact i2_add _ _) (by decide) rfl (fun ls hl => ?_)
          refine lv_goto (tgt := 6) hx hb dX11_raw_72 (by decide) ?_
          exact HC v5 v6_4 _ _ _ (Option.some.inj hf).symm hv5 hv6_4 (lv_sub hl [1, 2, 3, 4, 5, 6, 0] rfl) w
        · replace hf := ite_t cd_4 hf
          refine lv_aload_n hx hb dX11_raw_48 rfl (lv_at hl 0 rfl) ?_
          refine g_getr X w fg_X11_60 KD_80 FR_80_20 dX11_raw_49 ?_
          refine lv_iload hx hb dX11_raw_52 (lv_at hl 6 rfl) ?_
          obtain ⟨hg_4, hf⟩ := gd_some hf
          refine g_iald X w KD_96 hv6 hg_4 dX11_raw_54 ?_
          refine lv_iload hx hb dX11_raw_55 (lv_at hl 4 rfl) ?_
          refine g_icmp_gt (tgt := 69) X (w.2.2 _ _) hv4 dX11_raw_57 (by decide) (fun cd_5 => ?_) (fun cd_5 => ?_)
          · replace hf := ite_t cd_5 hf
            obtain ⟨v6_5, ev6_5, hf⟩ := lt_some hf
            have hv6_5 : inR v6_5 := inR_of ev6_5 (inR_wrap _)
            refine lv_iinc (v := i2 v6_5) (lv' := [(6, .int (i2 v6_5)), (0, .ref (ad 80)), (1, .int (i2 v1)), (2, .int (i2 v2)), (3, .int (i2 v3)), (4, .int (i2 v4)), (5, .int (i2 v5))]) hx hb dX11_raw_69 hl (k := 6) rfl (by rw [ev6_5]; exact i2_add _ _) (by decide) rfl (fun ls hl => ?_)
            refine lv_goto (tgt := 6) hx hb dX11_raw_72 (by decide) ?_
            exact HC v5 v6_5 _ _ _ (Option.some.inj hf).symm hv5 hv6_5 (lv_sub hl [1, 2, 3, 4, 5, 6, 0] rfl) w
          · replace hf := ite_f cd_5 hf
            refine lv_aload_n hx hb dX11_raw_60 rfl (lv_at hl 0 rfl) ?_
            refine g_getr X w fg_X11_57 KD_80 FR_80_19 dX11_raw_61 ?_
            refine lv_iload hx hb dX11_raw_64 (lv_at hl 6 rfl) ?_
            obtain ⟨hg_5, hf⟩ := gd_some hf
            refine g_iald X w KD_95 hv6 hg_5 dX11_raw_66 ?_
            obtain ⟨v5_2, ev5_2, hf⟩ := lt_some hf
            have hv5_2 : inR v5_2 := inR_of ev5_2 (w.2.2 _ _)
            refine g_ist (v := v5_2) (lv' := [(5, .int (i2 v5_2)), (0, .ref (ad 80)), (1, .int (i2 v1)), (2, .int (i2 v2)), (3, .int (i2 v3)), (4, .int (i2 v4)), (6, .int (i2 v6))]) X ev5_2 dX11_raw_67 hl (by decide) rfl (fun ls hl => ?_)
            obtain ⟨v6_6, ev6_6, hf⟩ := lt_some hf
            have hv6_6 : inR v6_6 := inR_of ev6_6 (inR_wrap _)
            refine lv_iinc (v := i2 v6_6) (lv' := [(6, .int (i2 v6_6)), (5, .int (i2 v5_2)), (0, .ref (ad 80)), (1, .int (i2 v1)), (2, .int (i2 v2)), (3, .int (i2 v3)), (4, .int (i2 v4))]) hx hb dX11_raw_69 hl (k := 6) rfl (by rw [ev6_6]; exact i2_add _ _) (by decide) rfl (fun ls hl => ?_)
            refine lv_goto (tgt := 6) hx hb dX11_raw_72 (by decide) ?_
            exact HC v5_2 v6_6 _ _ _ (Option.some.inj hf).symm hv5_2 hv6_6 (lv_sub hl [2, 3, 4, 5, 6, 1, 0] rfl) w
set_option maxRecDepth 100000 in
set_option maxHeartbeats 4000000 in
theorem l_X11_raw_6 (X : CX p s m args c cX11_raw 7 RX11 D aC ad sg A H0) (v1 : Int) (hv1 : inR v1) (v2 : Int) (hv2 : inR v2) (v3 : Int) (hv3 : inR v3) (v4 : Int) (hv4 : inR v4) {M : Mem} {out : Int × Int} (HE : ∀ (y5 : Int) (y6 : Int) (H : Heap) (locs : List Loc) (ls : Array Slot), out = (y5, y6) → inR y5 → inR y6 → lv_has ls 7 [(0, .ref (ad 80)), (1, .int (i2 v1)), (2, .int (i2 v2)), (3, .int (i2 v3)), (4, .int (i2 v4)), (5, .int (i2 y5)), (6, .int (i2 y6))] → WS D aC ad A H0 M H locs → W p l e rm_X11_raw s m args below meth c H locs 0 0 Q (F0 m 75 ls [])) : ∀ (n : Nat) (v5 : Int) (v6 : Int), whl (fun s => f_X11_raw_s6 v1 v2 v3 v4 M s.1 s.2) n (v5, v6) = some out → inR v5 → inR v6 → ∀ {H : Heap} {locs : List Loc} {ls : Array Slot}, lv_has ls 7 [(0, .ref (ad 80)), (1, .int (i2 v1)), (2, .int (i2 v2)), (3, .int (i2 v3)), (4, .int (i2 v4)), (5, .int (i2 v5)), (6, .int (i2 v6))] → WS D aC ad A H0 M H locs → W p l e rm_X11_raw s m args below meth c H locs 0 0 Q (F0 m 6 ls []) := by
  intro n
  induction n with
  | zero => intro v5 v6 hf; exact (whl_zero hf).elim
  | succ n ih =>
    intro v5 v6 hf hv5 hv6 H locs ls hl w
    obtain ⟨o, hf, hk1, hk2⟩ := whl_step hf
    exact b_X11_raw_s6 X v1 hv1 v2 hv2 v3 hv3 v4 hv4 (fun y5 y6 H locs ls eo hy5 hy6 hl w => ih y5 y6 (hk1 _ eo) hy5 hy6 hl w) (fun y5 y6 H locs ls eo hy5 hy6 hl w => HE y5 y6 H locs ls (hk2 _ eo).symm hy5 hy6 hl w) v5 hv5 v6 hv6 hf hl w
set_option maxRecDepth 100000 in
set_option maxHeartbeats 4000000 in
theorem b_X11_raw_j75 (X : CX p s m args c cX11_raw 7 RX11 D aC ad sg A H0) {M : Mem} {o : Int} (HR : ∀ (r : Int) (H : Heap) (locs : List Loc) (pc : Nat) (ls : Array Slot), o = r → inR r → WS D aC ad A H0 M H locs → decode cX11_raw pc = .ok (.ireturn, 1) → W p l e rm_X11_raw s m args below meth c H locs 0 0 Q (F0 m pc ls [.int (i2 r)])) (v5 : Int) (hv5 : inR v5) (hf : f_X11_raw_j75 v5 M = some o) {H : Heap} {locs : List Loc} {ls : Array Slot} (hl : lv_has ls 7 [(5, .int (i2 v5))]) (w : WS D aC ad A H0 M H locs) : W p l e rm_X11_raw s m args below meth c H locs 0 0 Q (F0 m 75 ls []) := by
  have hx := X.1.1
  have hb := X.1.2.1
  unfold f_X11_raw_j75 at hf
  refine lv_iload hx hb dX11_raw_75 (lv_at hl 0 rfl) ?_
  exact HR v5 _ _ _ _ (Option.some.inj hf).symm hv5 w dX11_raw_77
set_option maxRecDepth 100000 in
set_option maxHeartbeats 4000000 in
theorem b_X11_raw_0 (X : CX p s m args c cX11_raw 7 RX11 D aC ad sg A H0) {M : Mem} {o : Int} (HR : ∀ (r : Int) (H : Heap) (locs : List Loc) (pc : Nat) (ls : Array Slot), o = r → inR r → WS D aC ad A H0 M H locs → decode cX11_raw pc = .ok (.ireturn, 1) → W p l e rm_X11_raw s m args below meth c H locs 0 0 Q (F0 m pc ls [.int (i2 r)])) (p1 : Int) (hp1 : inR p1) (p2 : Int) (hp2 : inR p2) (p3 : Int) (hp3 : inR p3) (p4 : Int) (hp4 : inR p4) (hf : f_X11_raw p1 p2 p3 p4 M = some o) {H : Heap} {locs : List Loc} {ls : Array Slot} (hl : lv_has ls 7 [(0, .ref (ad 80)), (1, .int (i2 p1)), (2, .int (i2 p2)), (3, .int (i2 p3)), (4, .int (i2 p4))]) (w : WS D aC ad A H0 M H locs) : W p l e rm_X11_raw s m args below meth c H locs 0 0 Q (F0 m 0 ls []) := by
  have hx := X.1.1
  have hb := X.1.2.1
  unfold f_X11_raw at hf
  refine g_iconst X dX11_raw_0 ?_
  refine g_ist (v := (-1)) (lv' := [(5, .int (i2 (-1))), (0, .ref (ad 80)), (1, .int (i2 p1)), (2, .int (i2 p2)), (3, .int (i2 p3)), (4, .int (i2 p4))]) X rfl dX11_raw_1 hl (by decide) rfl (fun ls hl => ?_)
  refine g_iconst X dX11_raw_3 ?_
  refine g_ist (v := 0) (lv' := [(6, .int (i2 0)), (5, .int (i2 (-1))), (0, .ref (ad 80)), (1, .int (i2 p1)), (2, .int (i2 p2)), (3, .int (i2 p3)), (4, .int (i2 p4))]) X rfl dX11_raw_4 hl (by decide) rfl (fun ls hl => ?_)
  obtain ⟨q, hq, h1⟩ := obn_some hf
  exact l_X11_raw_6 X p1 hp1 p2 hp2 p3 hp3 p4 hp4 (out := q) (fun y5 y6 H locs ls eq hy5 hy6 hl w => b_X11_raw_j75 X  HR y5 hy5 (by subst eq; exact h1) (lv_sub hl [5] rfl) w)  FU (-1) 0 hq (inL rfl) (inL rfl) (lv_sub hl [2, 3, 4, 5, 6, 1, 0] rfl) w
set_option maxRecDepth 100000 in
set_option maxHeartbeats 4000000 in
theorem k_X11_raw {l : Launch} {D : va_G} {aC : Nat → ClassId} {ad : Nat → Nat} {sg : SG} (hi : Inj ad) (p1 : Int) (hp1 : inR p1) (p2 : Int) (hp2 : inR p2) (p3 : Int) (hp3 : inR p3) (p4 : Int) (hp4 : inR p4) {M : Mem} (hM : inM M) {r : Int} (hf : f_X11_raw p1 p2 p3 p4 M = some r) : MetI l D aC ad sg yX11_raw cX11_raw 7 (some .int) rm_X11_raw 0 0 [.ref (ad 80), .int (i2 p1), .int (i2 p2), .int (i2 p3), .int (i2 p4)] M r M := by
  refine MetI.ofI (by decide +kernel) (nle rfl) hi hM (fun p e s m args below meth c Q H0 ls X hl w hret => ?_)
  exact b_X11_raw_0 X  (fun r1 H locs pc ls eo hP w dg => by cases eo; exact hret H locs pc ls hP w dg) p1 hp1 p2 hp2 p3 hp3 p4 hp4 hf hl w
set_option maxRecDepth 100000 in
set_option maxHeartbeats 4000000 in
theorem b_X11_scaledOf_j72k28 (X : CX p s m args c cX11_scaledOf 10 RX11 D aC ad sg A H0) (v1 : Int) (hv1 : inR v1) (v2 : Int) (hv2 : inR v2) (v3 : Int) (hv3 : inR v3) (v4 : Int) (hv4 : inR v4) (v5 : Int) (hv5 : inR v5) {M : Mem} {o : (Int × Int × Int) ⊕ (Int × Int × Int)} (HC : ∀ (y6 : Int) (y7 : Int) (y8 : Int) (H : Heap) (locs : List Loc) (ls : Array Slot), o = .inl (y6, y7, y8) → inR y6 → inR y7 → inR y8 → lv_has ls 10 [(0, .ref (ad 80)), (1, .int (i2 v1)), (2, .int (i2 v2)), (3, .int (i2 v3)), (4, .int (i2 v4)), (5, .int (i2 v5)), (6, .int (i2 y6)), (7, .int (i2 y7)), (8, .int (i2 y8))] → WS D aC ad A H0 M H locs → W p l e rm_X11_scaledOf s m args below meth c H locs 0 0 Q (F0 m 28 ls [])) (HE : ∀ (y6 : Int) (y7 : Int) (y8 : Int) (H : Heap) (locs : List Loc) (ls : Array Slot), o = .inr (y6, y7, y8) → inR y6 → inR y7 → inR y8 → lv_has ls 10 [(0, .ref (ad 80)), (1, .int (i2 v1)), (2, .int (i2 v2)), (3, .int (i2 v3)), (4, .int (i2 v4)), (5, .int (i2 v5)), (6, .int (i2 y6)), (7, .int (i2 y7)), (8, .int (i2 y8))] → WS D aC ad A H0 M H locs → W p l e rm_X11_scaledOf s m args below meth c H locs 0 0 Q (F0 m 104 ls [])) (v6 : Int) (hv6 : inR v6) (v7 : Int) (hv7 : inR v7) (v8 : Int) (hv8 : inR v8) (v9 : Int) (hv9 : inR v9) (s0 : Int) (hs0 : inR s0) (s1 : Int) (hs1 : inR s1) (hf : f_X11_scaledOf_j72k28 v1 v2 v3 v4 v5 v6 v7 v8 v9 s0 s1 M = some o) {H : Heap} {locs : List Loc} {ls : Array Slot} (hl : lv_has ls 10 [(0, .ref (ad 80)), (1, .int (i2 v1)), (2, .int (i2 v2)), (3, .int (i2 v3)), (4, .int (i2 v4)), (5, .int (i2 v5)), (6, .int (i2 v6)), (7, .int (i2 v7)), (8, .int (i2 v8)), (9, .int (i2 v9))]) (w : WS D aC ad A H0 M H locs) : W p l e rm_X11_scaledOf s m args below meth c H locs 0 0 Q (F0 m 72 ls [.int (i2 s0), .int (i2 s1)]) := by
  have hx := X.1.1
  have hb := X.1.2.1
  unfold f_X11_scaledOf_j72k28 at hf
  refine g_iadd X dX11_scaledOf_72 ?_
  obtain ⟨v7_2, ev7_2, hf⟩ := lt_some hf
  have hv7_2 : inR v7_2 := inR_of ev7_2 (inR_wrap _)
  refine g_ist (v := v7_2) (lv' := [(7, .int (i2 v7_2)), (0, .ref (ad 80)), (1, .int (i2 v1)), (2, .int (i2 v2)), (3, .int (i2 v3)), (4, .int (i2 v4)), (5, .int (i2 v5)), (6, .int (i2 v6)), (8, .int (i2 v8)), (9, .int (i2 v9))]) X ev7_2 dX11_scaledOf_73 hl (by decide) rfl (fun ls hl => ?_)
  refine lv_iload hx hb dX11_scaledOf_75 (lv_at hl 7 rfl) ?_
  refine lv_iload hx hb dX11_scaledOf_77 (lv_at hl 9 rfl) ?_
  refine g_iconst X dX11_scaledOf_79 ?_
  refine g_icmp_eq (tgt := 94) X hv9 (inL rfl) dX11_scaledOf_80 (by decide) (fun cd => ?_) (fun cd => ?_)
  · replace hf := ite_t cd hf
    refine g_iconst X dX11_scaledOf_94 ?_
    refine g_iadd X dX11_scaledOf_95 ?_
    obtain ⟨v6_2, ev6_2, hf⟩ := lt_some hf
    have hv6_2 : inR v6_2 := inR_of ev6_2 (inR_wrap _)
    refine g_ist (v := v6_2) (lv' := [(6, .int (i2 v6_2)), (7, .int (i2 v7_2)), (0, .ref (ad 80)), (1, .int (i2 v1)), (2, .int (i2 v2)), (3, .int (i2 v3)), (4, .int (i2 v4)), (5, .int (i2 v5)), (8, .int (i2 v8)), (9, .int (i2 v9))]) X ev6_2 dX11_scaledOf_96 hl (by decide) rfl (fun ls hl => ?_)
    obtain ⟨v8_2, ev8_2, hf⟩ := lt_some hf
    have hv8_2 : inR v8_2 := inR_of ev8_2 (inR_wrap _)
    refine lv_iinc (v := i2 v8_2) (lv' := [(8, .int (i2 v8_2)), (6, .int (i2 v6_2)), (7, .int (i2 v7_2)), (0, .ref (ad 80)), (1, .int (i2 v1)), (2, .int (i2 v2)), (3, .int (i2 v3)), (4, .int (i2 v4)), (5, .int (i2 v5)), (9, .int (i2 v9))]) hx hb dX11_scaledOf_98 hl (k := 8) rfl (by rw [ev8_2]; exact i2_add _ _) (by decide) rfl (fun ls hl => ?_)
    refine lv_goto (tgt := 28) hx hb dX11_scaledOf_101 (by decide) ?_
    exact HC v6_2 v7_2 v8_2 _ _ _ (Option.some.inj hf).symm hv6_2 hv7_2 hv8_2 (lv_sub hl [3, 4, 5, 6, 7, 8, 1, 2, 0] rfl) w
  · replace hf := ite_f cd hf
    refine lv_iload hx hb dX11_scaledOf_83 (lv_at hl 9 rfl) ?_
    refine lv_iload hx hb dX11_scaledOf_85 (lv_at hl 6 rfl) ?_
    refine g_icmp_ge (tgt := 94) X hv9 hv5 dX11_scaledOf_87 (by decide) (fun cd_2 => ?_) (fun cd_2 => ?_)
    · replace hf := ite_t cd_2 hf
      refine g_iconst X dX11_scaledOf_94 ?_
      refine g_iadd X dX11_scaledOf_95 ?_
      obtain ⟨v6_3, ev6_3, hf⟩ := lt_some hf
      have hv6_3 : inR v6_3 := inR_of ev6_3 (inR_wrap _)
      refine g_ist (v := v6_3) (lv' := [(6, .int (i2 v6_3)), (7, .int (i2 v7_2)), (0, .ref (ad 80)), (1, .int (i2 v1)), (2, .int (i2 v2)), (3, .int (i2 v3)), (4, .int (i2 v4)), (5, .int (i2 v5)), (8, .int (i2 v8)), (9, .int (i2 v9))]) X ev6_3 dX11_scaledOf_96 hl (by decide) rfl (fun ls hl => ?_)
      obtain ⟨v8_3, ev8_3, hf⟩ := lt_some hf
      have hv8_3 : inR v8_3 := inR_of ev8_3 (inR_wrap _)
      refine lv_iinc (v := i2 v8_3) (lv' := [(8, .int (i2 v8_3)), (6, .int (i2 v6_3)), (7, .int (i2 v7_2)), (0, .ref (ad 80)), (1, .int (i2 v1)), (2, .int (i2 v2)), (3, .int (i2 v3)), (4, .int (i2 v4)), (5, .int (i2 v5)), (9, .int (i2 v9))]) hx hb dX11_scaledOf_98 hl (k := 8) rfl (by rw [ev8_3]; exact i2_add _ _) (by decide) rfl (fun ls hl => ?_)
      refine lv_goto (tgt := 28) hx hb dX11_scaledOf_101 (by decide) ?_
      exact HC v6_3 v7_2 v8_3 _ _ _ (Option.some.inj hf).symm hv6_3 hv7_2 hv8_3 (lv_sub hl [3, 4, 5, 6, 7, 8, 1, 2, 0] rfl) w
    · replace hf := ite_f cd_2 hf
      refine g_iconst X dX11_scaledOf_90 ?_
      refine lv_goto (tgt := 95) hx hb dX11_scaledOf_91 (by decide) ?_
      refine g_iadd X dX11_scaledOf_95 ?_
      obtain ⟨v6_4, ev6_4, hf⟩ := lt_some hf
      have hv6_4 : inR v6_4 := inR_of ev6_4 (inR_wrap _)
      refine g_ist (v := v6_4) (lv' := [(6, .int (i2 v6_4)), (7, .int (i2 v7_2)), (0, .ref (ad 80)), (1, .int (i2 v1)), (2, .int (i2 v2)), (3, .int (i2 v3)), (4, .int (i2 v4)), (5, .int (i2 v5)), (8, .int (i2 v8)), (9, .int (i2 v9))]) X ev6_4 dX11_scaledOf_96 hl (by decide) rfl (fun ls hl => ?_)
      obtain ⟨v8_4, ev8_4, hf⟩ := lt_some hf
      have hv8_4 : inR v8_4 := inR_of ev8_4 (inR_wrap _)
      refine lv_iinc (v := i2 v8_4) (lv' := [(8, .int (i2 v8_4)), (6, .int (i2 v6_4)), (7, .int (i2 v7_2)), (0, .ref (ad 80)), (1, .int (i2 v1)), (2, .int (i2 v2)), (3, .int (i2 v3)), (4, .int (i2 v4)), (5, .int (i2 v5)), (9, .int (i2 v9))]) hx hb dX11_scaledOf_98 hl (k := 8) rfl (by rw [ev8_4]; exact i2_add _ _) (by decide) rfl (fun ls hl => ?_)
      refine lv_goto (tgt := 28) hx hb dX11_scaledOf_101 (by decide) ?_
      exact HC v6_4 v7_2 v8_4 _ _ _ (Option.some.inj hf).symm hv6_4 hv7_2 hv8_4 (lv_sub hl [3, 4, 5, 6, 7, 8, 1, 2, 0] rfl) w
set_option maxRecDepth 100000 in
set_option maxHeartbeats 4000000 in
theorem b_X11_scaledOf_j57k28 (X : CX p s m args c cX11_scaledOf 10 RX11 D aC ad sg A H0) (v1 : Int) (hv1 : inR v1) (v2 : Int) (hv2 : inR v2) (v3 : Int) (hv3 : inR v3) (v4 : Int) (hv4 : inR v4) (v5 : Int) (hv5 : inR v5) {M : Mem} {o : (Int × Int × Int) ⊕ (Int × Int × Int)} (HC : ∀ (y6 : Int) (y7 : Int) (y8 : Int) (H : Heap) (locs : List Loc) (ls : Array Slot), o = .inl (y6, y7, y8) → inR y6 → inR y7 → inR y8 → lv_has ls 10 [(0, .ref (ad 80)), (1, .int (i2 v1)), (2, .int (i2 v2)), (3, .int (i2 v3)), (4, .int (i2 v4)), (5, .int (i2 v5)), (6, .int (i2 y6)), (7, .int (i2 y7)), (8, .int (i2 y8))] → WS D aC ad A H0 M H locs → W p l e rm_X11_scaledOf s m args below meth c H locs 0 0 Q (F0 m 28 ls [])) (HE : ∀ (y6 : Int) (y7 : Int) (y8 : Int) (H : Heap) (locs : List Loc) (ls : Array Slot), o = .inr (y6, y7, y8) → inR y6 → inR y7 → inR y8 → lv_has ls 10 [(0, .ref (ad 80)), (1, .int (i2 v1)), (2, .int (i2 v2)), (3, .int (i2 v3)), (4, .int (i2 v4)), (5, .int (i2 v5)), (6, .int (i2 y6)), (7, .int (i2 y7)), (8, .int (i2 y8))] → WS D aC ad A H0 M H locs → W p l e rm_X11_scaledOf s m args below meth c H locs 0 0 Q (F0 m 104 ls [])) (v6 : Int) (hv6 : inR v6) (v7 : Int) (hv7 : inR v7) (v8 : Int) (hv8 : inR v8) (s0 : Int) (hs0 : inR s0) (hf : f_X11_scaledOf_j57k28 v1 v2 v3 v4 v5 v6 v7 v8 s0 M = some o) {H : Heap} {locs : List Loc} {ls : Array Slot} (hl : lv_has ls 10 [(0, .ref (ad 80)), (1, .int (i2 v1)), (2, .int (i2 v2)), (3, .int (i2 v3)), (4, .int (i2 v4)), (5, .int (i2 v5)), (6, .int (i2 v6)), (7, .int (i2 v7)), (8, .int (i2 v8))]) (w : WS D aC ad A H0 M H locs) : W p l e rm_X11_scaledOf s m args below meth c H locs 0 0 Q (F0 m 57 ls [.int (i2 s0)]) := by
  have hx := X.1.1
  have hb := X.1.2.1
  unfold f_X11_scaledOf_j57k28 at hf
  refine g_ist (v := s0) (lv' := [(9, .int (i2 s0)), (0, .ref (ad 80)), (1, .int (i2 v1)), (2, .int (i2 v2)), (3, .int (i2 v3)), (4, .int (i2 v4)), (5, .int (i2 v5)), (6, .int (i2 v6)), (7, .int (i2 v7)), (8, .int (i2 v8))]) X rfl dX11_scaledOf_57 hl (by decide) rfl (fun ls hl => ?_)
  refine lv_iload hx hb dX11_scaledOf_59 (lv_at hl 8 rfl) ?_
  refine lv_iload hx hb dX11_scaledOf_61 (lv_at hl 0 rfl) ?_
  refine g_iconst X dX11_scaledOf_63 ?_
  refine g_icmp_ne (tgt := 71) X hs0 (inL rfl) dX11_scaledOf_64 (by decide) (fun cd => ?_) (fun cd => ?_)
  · replace hf := ite_f cd hf
    refine g_iconst X dX11_scaledOf_71 ?_
    exact b_X11_scaledOf_j72k28 X v1 hv1 v2 hv2 v3 hv3 v4 hv4 v5 hv5 HC HE v6 hv6 v7 hv7 v8 hv8 s0 hs0 1 (inL rfl) v7 hv7 hf (lv_sub hl [1, 2, 3, 4, 5, 6, 7, 8, 9, 0] rfl) w
  · replace hf := ite_t cd hf
    refine g_iconst X dX11_scaledOf_67 ?_
    refine lv_goto (tgt := 72) hx hb dX11_scaledOf_68 (by decide) ?_
    exact b_X11_scaledOf_j72k28 X v1 hv1 v2 hv2 v3 hv3 v4 hv4 v5 hv5 HC HE v6 hv6 v7 hv7 v8 hv8 s0 hs0 0 (inL rfl) v7 hv7 hf (lv_sub hl [1, 2, 3, 4, 5, 6, 7, 8, 9, 0] rfl) w
set_option maxRecDepth 100000 in
set_option maxHeartbeats 4000000 in
theorem b_X11_scaledOf_s28 (X : CX p s m args c cX11_scaledOf 10 RX11 D aC ad sg A H0) (v1 : Int) (hv1 : inR v1) (v2 : Int) (hv2 : inR v2) (v3 : Int) (hv3 : inR v3) (v4 : Int) (hv4 : inR v4) (v5 : Int) (hv5 : inR v5) {M : Mem} {o : (Int × Int × Int) ⊕ (Int × Int × Int)} (HC : ∀ (y6 : Int) (y7 : Int) (y8 : Int) (H : Heap) (locs : List Loc) (ls : Array Slot), o = .inl (y6, y7, y8) → inR y6 → inR y7 → inR y8 → lv_has ls 10 [(0, .ref (ad 80)), (1, .int (i2 v1)), (2, .int (i2 v2)), (3, .int (i2 v3)), (4, .int (i2 v4)), (5, .int (i2 v5)), (6, .int (i2 y6)), (7, .int (i2 y7)), (8, .int (i2 y8))] → WS D aC ad A H0 M H locs → W p l e rm_X11_scaledOf s m args below meth c H locs 0 0 Q (F0 m 28 ls [])) (HE : ∀ (y6 : Int) (y7 : Int) (y8 : Int) (H : Heap) (locs : List Loc) (ls : Array Slot), o = .inr (y6, y7, y8) → inR y6 → inR y7 → inR y8 → lv_has ls 10 [(0, .ref (ad 80)), (1, .int (i2 v1)), (2, .int (i2 v2)), (3, .int (i2 v3)), (4, .int (i2 v4)), (5, .int (i2 v5)), (6, .int (i2 y6)), (7, .int (i2 y7)), (8, .int (i2 y8))] → WS D aC ad A H0 M H locs → W p l e rm_X11_scaledOf s m args below meth c H locs 0 0 Q (F0 m 104 ls [])) (v6 : Int) (hv6 : inR v6) (v7 : Int) (hv7 : inR v7) (v8 : Int) (hv8 : inR v8) (hf : f_X11_scaledOf_s28 v1 v2 v3 v4 v5 M v6 v7 v8 = some o) {H : Heap} {locs : List Loc} {ls : Array Slot} (hl : lv_has ls 10 [(0, .ref (ad 80)), (1, .int (i2 v1)), (2, .int (i2 v2)), (3, .int (i2 v3)), (4, .int (i2 v4)), (5, .int (i2 v5)), (6, .int (i2 v6)), (7, .int (i2 v7)), (8, .int (i2 v8))]) (w : WS D aC ad A H0 M H locs) : W p l e rm_X11_scaledOf s m args below meth c H locs 0 0 Q (F0 m 28 ls []) := by
  have hx := X.1.1
  have hb := X.1.2.1
  unfold f_X11_scaledOf_s28 at hf
  refine lv_iload hx hb dX11_scaledOf_28 (lv_at hl 8 rfl) ?_
  refine lv_aload_n hx hb dX11_scaledOf_30 rfl (lv_at hl 0 rfl) ?_
  refine g_geti X w fg_X11_142 KD_80 FR_80_1 dX11_scaledOf_31 ?_
  refine g_icmp_ge (tgt := 104) X hv8 (w.2.2 _ _) dX11_scaledOf_34 (by decide) (fun cd => ?_) (fun cd => ?_)
  · replace hf := ite_t cd hf
    exact HE v6 v7 v8 _ _ _ (Option.some.inj hf).symm hv6 hv7 hv8 hl w
  · replace hf := ite_f cd hf
    refine lv_iload hx hb dX11_scaledOf_37 (lv_at hl 8 rfl) ?_
    refine lv_iload_n hx hb dX11_scaledOf_39 rfl (lv_at hl 2 rfl) ?_
    refine g_icmp_ne (tgt := 47) X hv8 hv2 dX11_scaledOf_40 (by decide) (fun cd_2 => ?_) (fun cd_2 => ?_)
    · replace hf := ite_f cd_2 hf
      refine lv_aload_n hx hb dX11_scaledOf_47 rfl (lv_at hl 0 rfl) ?_
      refine lv_iload_n hx hb dX11_scaledOf_48 rfl (lv_at hl 1 rfl) ?_
      refine lv_iload hx hb dX11_scaledOf_49 (lv_at hl 8 rfl) ?_
      refine lv_iload_n hx hb dX11_scaledOf_51 rfl (lv_at hl 3 rfl) ?_
      refine lv_iload hx hb dX11_scaledOf_52 (lv_at hl 4 rfl) ?_
      obtain ⟨r, hc, hf⟩ := obn_some hf
      refine g_cvi (As := [.int (i2 v1), .int (i2 v8), .int (i2 v3), .int (i2 v4)]) (rest := []) X w (k_X11_raw X.2.2.1 v1 hv1 v8 hv8 v3 hv3 v4 hv4 w.2.2 hc) lk_X11_171 cl_11 KD_80 ⟨rfl, rfl⟩ ⟨nle rfl, nle rfl⟩ ⟨nle rfl, nle rfl⟩ hl.1 rfl (nle rfl) dX11_scaledOf_54 (fun hr H locs w => ?_)
      exact b_X11_scaledOf_j57k28 X v1 hv1 v2 hv2 v3 hv3 v4 hv4 v5 hv5 HC HE v6 hv6 v7 hv7 v8 hv8 r hr hf hl w
    · replace hf := ite_t cd_2 hf
      refine g_iconst X dX11_scaledOf_43 ?_
      refine lv_goto (tgt := 57) hx hb dX11_scaledOf_44 (by decide) ?_
      exact b_X11_scaledOf_j57k28 X v1 hv1 v2 hv2 v3 hv3 v4 hv4 v5 hv5 HC HE v6 hv6 v7 hv7 v8 hv8 (-1) (inL rfl) hf hl w
set_option maxRecDepth 100000 in
set_option maxHeartbeats 4000000 in
theorem l_X11_scaledOf_28 (X : CX p s m args c cX11_scaledOf 10 RX11 D aC ad sg A H0) (v1 : Int) (hv1 : inR v1) (v2 : Int) (hv2 : inR v2) (v3 : Int) (hv3 : inR v3) (v4 : Int) (hv4 : inR v4) (v5 : Int) (hv5 : inR v5) {M : Mem} {out : Int × Int × Int} (HE : ∀ (y6 : Int) (y7 : Int) (y8 : Int) (H : Heap) (locs : List Loc) (ls : Array Slot), out = (y6, y7, y8) → inR y6 → inR y7 → inR y8 → lv_has ls 10 [(0, .ref (ad 80)), (1, .int (i2 v1)), (2, .int (i2 v2)), (3, .int (i2 v3)), (4, .int (i2 v4)), (5, .int (i2 v5)), (6, .int (i2 y6)), (7, .int (i2 y7)), (8, .int (i2 y8))] → WS D aC ad A H0 M H locs → W p l e rm_X11_scaledOf s m args below meth c H locs 0 0 Q (F0 m 104 ls [])) : ∀ (n : Nat) (v6 : Int) (v7 : Int) (v8 : Int), whl (fun s => f_X11_scaledOf_s28 v1 v2 v3 v4 v5 M s.1 s.2.1 s.2.2) n (v6, v7, v8) = some out → inR v6 → inR v7 → inR v8 → ∀ {H : Heap} {locs : List Loc} {ls : Array Slot}, lv_has ls 10 [(0, .ref (ad 80)), (1, .int (i2 v1)), (2, .int (i2 v2)), (3, .int (i2 v3)), (4, .int (i2 v4)), (5, .int (i2 v5)), (6, .int (i2 v6)), (7, .int (i2 v7)), (8, .int (i2 v8))] → WS D aC ad A H0 M H locs → W p l e rm_X11_scaledOf s m args below meth c H locs 0 0 Q (F0 m 28 ls []) := by
  intro n
  induction n with
  | zero => intro v6 v7 v8 hf; exact (whl_zero hf).elim
  | succ n ih =>
    intro v6 v7 v8 hf hv6 hv7 hv8 H locs ls hl w
    obtain ⟨o, hf, hk1, hk2⟩ := whl_step hf
    exact b_X11_scaledOf_s28 X v1 hv1 v2 hv2 v3 hv3 v4 hv4 v5 hv5 (fun y6 y7 y8 H locs ls eo hy6 hy7 hy8 hl w => ih y6 y7 y8 (hk1 _ eo) hy6 hy7 hy8 hl w) (fun y6 y7 y8 H locs ls eo hy6 hy7 hy8 hl w => HE y6 y7 y8 H locs ls (hk2 _ eo).symm hy6 hy7 hy8 hl w) v6 hv6 v7 hv7 v8 hv8 hf hl w
set_option maxRecDepth 100000 in
set_option maxHeartbeats 4000000 in
theorem b_X11_scaledOf_j104 (X : CX p s m args c cX11_scaledOf 10 RX11 D aC ad sg A H0) {M : Mem} {o : Int} (HR : ∀ (r : Int) (H : Heap) (locs : List Loc) (pc : Nat) (ls : Array Slot), o = r → inR r → WS D aC ad A H0 M H locs → decode cX11_scaledOf pc = .ok (.ireturn, 1) → W p l e rm_X11_scaledOf s m args below meth c H locs 0 0 Q (F0 m pc ls [.int (i2 r)])) (v6 : Int) (hv6 : inR v6) (v7 : Int) (hv7 : inR v7) (hf : f_X11_scaledOf_j104 v6 v7 M = some o) {H : Heap} {locs : List Loc} {ls : Array Slot} (hl : lv_has ls 10 [(6, .int (i2 v6)), (7, .int (i2 v7))]) (w : WS D aC ad A H0 M H locs) : W p l e rm_X11_scaledOf s m args below meth c H locs 0 0 Q (F0 m 104 ls []) := by
  have hx := X.1.1
  have hb := X.1.2.1
  unfold f_X11_scaledOf_j104 at hf
  refine lv_iload hx hb dX11_scaledOf_104 (lv_at hl 1 rfl) ?_
  refine g_if_ne (tgt := 113) X hv7 dX11_scaledOf_106 (by decide) (fun cd => ?_) (fun cd => ?_)
  · replace hf := ite_f cd hf
    refine g_bipush X dX11_scaledOf_113 (by decide) ?_
    refine lv_iload hx hb dX11_scaledOf_115 (lv_at hl 0 rfl) ?_
    refine g_imul X dX11_scaledOf_117 ?_
    refine lv_iload hx hb dX11_scaledOf_118 (lv_at hl 1 rfl) ?_
    obtain ⟨hg, hf⟩ := gd_some hf
    refine g_idiv X hv7 hg dX11_scaledOf_120 ?_
    exact HR (jdiv (wrap (10 * v6)) v7) _ _ _ _ (Option.some.inj hf).symm (inR_toInt _) w dX11_scaledOf_121
  · replace hf := ite_t cd hf
    refine g_iconst X dX11_scaledOf_109 ?_
    refine lv_goto (tgt := 121) hx hb dX11_scaledOf_110 (by decide) ?_
    exact HR 5 _ _ _ _ (Option.some.inj hf).symm (inL rfl) w dX11_scaledOf_121
set_option maxRecDepth 100000 in
set_option maxHeartbeats 4000000 in
theorem b_X11_scaledOf_0 (X : CX p s m args c cX11_scaledOf 10 RX11 D aC ad sg A H0) {M : Mem} {o : Int} (HR : ∀ (r : Int) (H : Heap) (locs : List Loc) (pc : Nat) (ls : Array Slot), o = r → inR r → WS D aC ad A H0 M H locs → decode cX11_scaledOf pc = .ok (.ireturn, 1) → W p l e rm_X11_scaledOf s m args below meth c H locs 0 0 Q (F0 m pc ls [.int (i2 r)])) (p1 : Int) (hp1 : inR p1) (p2 : Int) (hp2 : inR p2) (p3 : Int) (hp3 : inR p3) (p4 : Int) (hp4 : inR p4) (hf : f_X11_scaledOf p1 p2 p3 p4 M = some o) {H : Heap} {locs : List Loc} {ls : Array Slot} (hl : lv_has ls 10 [(0, .ref (ad 80)), (1, .int (i2 p1)), (2, .int (i2 p2)), (3, .int (i2 p3)), (4, .int (i2 p4))]) (w : WS D aC ad A H0 M H locs) : W p l e rm_X11_scaledOf s m args below meth c H locs 0 0 Q (F0 m 0 ls []) := by
  have hx := X.1.1
  have hb := X.1.2.1
  unfold f_X11_scaledOf at hf
  refine lv_aload_n hx hb dX11_scaledOf_0 rfl (lv_at hl 0 rfl) ?_
  refine lv_iload_n hx hb dX11_scaledOf_1 rfl (lv_at hl 1 rfl) ?_
  refine lv_iload_n hx hb dX11_scaledOf_2 rfl (lv_at hl 2 rfl) ?_
  refine lv_iload_n hx hb dX11_scaledOf_3 rfl (lv_at hl 3 rfl) ?_
  refine lv_iload hx hb dX11_scaledOf_4 (lv_at hl 4 rfl) ?_
  obtain ⟨r, hc, hf⟩ := obn_some hf
  refine g_cvi (As := [.int (i2 p1), .int (i2 p2), .int (i2 p3), .int (i2 p4)]) (rest := []) X w (k_X11_raw X.2.2.1 p1 hp1 p2 hp2 p3 hp3 p4 hp4 w.2.2 hc) lk_X11_171 cl_11 KD_80 ⟨rfl, rfl⟩ ⟨nle rfl, nle rfl⟩ ⟨nle rfl, nle rfl⟩ hl.1 rfl (nle rfl) dX11_scaledOf_6 (fun hr H locs w => ?_)
  refine g_ist (v := r) (lv' := [(5, .int (i2 r)), (0, .ref (ad 80)), (1, .int (i2 p1)), (2, .int (i2 p2)), (3, .int (i2 p3)), (4, .int (i2 p4))]) X rfl dX11_scaledOf_9 hl (by decide) rfl (fun ls hl => ?_)
  refine lv_iload hx hb dX11_scaledOf_11 (lv_at hl 0 rfl) ?_
  refine g_iconst X dX11_scaledOf_13 ?_
  refine g_icmp_ne (tgt := 19) X hr (inL rfl) dX11_scaledOf_14 (by decide) (fun cd => ?_) (fun cd => ?_)
  · replace hf := ite_f cd hf
    refine g_iconst X dX11_scaledOf_19 ?_
    refine g_ist (v := 0) (lv' := [(6, .int (i2 0)), (5, .int (i2 r)), (0, .ref (ad 80)), (1, .int (i2 p1)), (2, .int (i2 p2)), (3, .int (i2 p3)), (4, .int (i2 p4))]) X rfl dX11_scaledOf_20 hl (by decide) rfl (fun ls hl => ?_)
    refine g_iconst X dX11_scaledOf_22 ?_
    refine g_ist (v := 0) (lv' := [(7, .int (i2 0)), (6, .int (i2 0)), (5, .int (i2 r)), (0, .ref (ad 80)), (1, .int (i2 p1)), (2, .int (i2 p2)), (3, .int (i2 p3)), (4, .int (i2 p4))]) X rfl dX11_scaledOf_23 hl (by decide) rfl (fun ls hl => ?_)
    refine g_iconst X dX11_scaledOf_25 ?_
    refine g_ist (v := 0) (lv' := [(8, .int (i2 0)), (7, .int (i2 0)), (6, .int (i2 0)), (5, .int (i2 r)), (0, .ref (ad 80)), (1, .int (i2 p1)), (2, .int (i2 p2)), (3, .int (i2 p3)), (4, .int (i2 p4))]) X rfl dX11_scaledOf_26 hl (by decide) rfl (fun ls hl => ?_)
    obtain ⟨q, hq, h1⟩ := obn_some hf
    exact l_X11_scaledOf_28 X p1 hp1 p2 hp2 p3 hp3 p4 hp4 r hr (out := q) (fun y6 y7 y8 H locs ls eq hy6 hy7 hy8 hl w => b_X11_scaledOf_j104 X  HR y6 hy6 y7 hy7 (by subst eq; exact h1) (lv_sub hl [6, 7] rfl) w)  FU 0 0 0 hq (inL rfl) (inL rfl) (inL rfl) (lv_sub hl [4, 5, 6, 7, 8, 3, 2, 1, 0] rfl) w
  · replace hf := ite_t cd hf
    refine g_iconst X dX11_scaledOf_17 ?_
    exact HR (-1) _ _ _ _ (Option.some.inj hf).symm (inL rfl) w dX11_scaledOf_18
set_option maxRecDepth 100000 in
set_option maxHeartbeats 4000000 in
theorem k_X11_scaledOf {l : Launch} {D : va_G} {aC : Nat → ClassId} {ad : Nat → Nat} {sg : SG} (hi : Inj ad) (p1 : Int) (hp1 : inR p1) (p2 : Int) (hp2 : inR p2) (p3 : Int) (hp3 : inR p3) (p4 : Int) (hp4 : inR p4) {M : Mem} (hM : inM M) {r : Int} (hf : f_X11_scaledOf p1 p2 p3 p4 M = some r) : MetI l D aC ad sg yX11_scaledOf cX11_scaledOf 10 (some .int) rm_X11_scaledOf 0 0 [.ref (ad 80), .int (i2 p1), .int (i2 p2), .int (i2 p3), .int (i2 p4)] M r M := by
  refine MetI.ofI (by decide +kernel) (nle rfl) hi hM (fun p e s m args below meth c Q H0 ls X hl w hret => ?_)
  exact b_X11_scaledOf_0 X  (fun r1 H locs pc ls eo hP w dg => by cases eo; exact hret H locs pc ls hP w dg) p1 hp1 p2 hp2 p3 hp3 p4 hp4 hf hl w
set_option maxRecDepth 100000 in
set_option maxHeartbeats 4000000 in
theorem b_X11_together_j40k9 (X : CX p s m args c cX11_together 8 RX11 D aC ad sg A H0) (v1 : Int) (hv1 : inR v1) (v2 : Int) (hv2 : inR v2) (v3 : Int) (hv3 : inR v3) {M : Mem} {o : (Int × Int × Int) ⊕ (Int × Int × Int)} (HC : ∀ (y4 : Int) (y5 : Int) (y6 : Int) (H : Heap) (locs : List Loc) (ls : Array Slot), o = .inl (y4, y5, y6) → inR y4 → inR y5 → inR y6 → lv_has ls 8 [(0, .ref (ad 80)), (1, .int (i2 v1)), (2, .int (i2 v2)), (3, .int (i2 v3)), (4, .int (i2 y4)), (5, .int (i2 y5)), (6, .int (i2 y6))] → WS D aC ad A H0 M H locs → W p l e rm_X11_together s m args below meth c H locs 0 0 Q (F0 m 9 ls [])) (HE : ∀ (y4 : Int) (y5 : Int) (y6 : Int) (H : Heap) (locs : List Loc) (ls : Array Slot), o = .inr (y4, y5, y6) → inR y4 → inR y5 → inR y6 → lv_has ls 8 [(0, .ref (ad 80)), (1, .int (i2 v1)), (2, .int (i2 v2)), (3, .int (i2 v3)), (4, .int (i2 y4)), (5, .int (i2 y5)), (6, .int (i2 y6))] → WS D aC ad A H0 M H locs → W p l e rm_X11_together s m args below meth c H locs 0 0 Q (F0 m 65 ls [])) (v4 : Int) (hv4 : inR v4) (v5 : Int) (hv5 : inR v5) (v6 : Int) (hv6 : inR v6) (v7 : Int) (hv7 : inR v7) (s0 : Int) (hs0 : inR s0) (s1 : Int) (hs1 : inR s1) (hf : f_X11_together_j40k9 v1 v2 v3 v4 v5 v6 v7 s0 s1 M = some o) {H : Heap} {locs : List Loc} {ls : Array Slot} (hl : lv_has ls 8 [(0, .ref (ad 80)), (1, .int (i2 v1)), (2, .int (i2 v2)), (3, .int (i2 v3)), (4, .int (i2 v4)), (5, .int (i2 v5)), (6, .int (i2 v6)), (7, .int (i2 v7))]) (w : WS D aC ad A H0 M H locs) : W p l e rm_X11_together s m args below meth c H locs 0 0 Q (F0 m 40 ls [.int (i2 s0), .int (i2 s1)]) := by
  have hx := X.1.1
  have hb := X.1.2.1
  unfold f_X11_together_j40k9 at hf
  refine g_iadd X dX11_together_40 ?_
  obtain ⟨v4_2, ev4_2, hf⟩ := lt_some hf
  have hv4_2 : inR v4_2 := inR_of ev4_2 (inR_wrap _)
  refine g_ist (v := v4_2) (lv' := [(4, .int (i2 v4_2)), (0, .ref (ad 80)), (1, .int (i2 v1)), (2, .int (i2 v2)), (3, .int (i2 v3)), (5, .int (i2 v5)), (6, .int (i2 v6)), (7, .int (i2 v7))]) X ev4_2 dX11_together_41 hl (by decide) rfl (fun ls hl => ?_)
  refine lv_iload hx hb dX11_together_43 (lv_at hl 5 rfl) ?_
  refine lv_iload hx hb dX11_together_45 (lv_at hl 7 rfl) ?_
  refine g_iconst X dX11_together_47 ?_
  refine g_icmp_ne (tgt := 55) X hv7 (inL rfl) dX11_together_48 (by decide) (fun cd => ?_) (fun cd => ?_)
  · replace hf := ite_f cd hf
    refine g_iconst X dX11_together_55 ?_
    refine g_iadd X dX11_together_56 ?_
    obtain ⟨v5_2, ev5_2, hf⟩ := lt_some hf
    have hv5_2 : inR v5_2 := inR_of ev5_2 (inR_wrap _)
    refine g_ist (v := v5_2) (lv' := [(5, .int (i2 v5_2)), (4, .int (i2 v4_2)), (0, .ref (ad 80)), (1, .int (i2 v1)), (2, .int (i2 v2)), (3, .int (i2 v3)), (6, .int (i2 v6)), (7, .int (i2 v7))]) X ev5_2 dX11_together_57 hl (by decide) rfl (fun ls hl => ?_)
    obtain ⟨v6_2, ev6_2, hf⟩ := lt_some hf
    have hv6_2 : inR v6_2 := inR_of ev6_2 (inR_wrap _)
    refine lv_iinc (v := i2 v6_2) (lv' := [(6, .int (i2 v6_2)), (5, .int (i2 v5_2)), (4, .int (i2 v4_2)), (0, .ref (ad 80)), (1, .int (i2 v1)), (2, .int (i2 v2)), (3, .int (i2 v3)), (7, .int (i2 v7))]) hx hb dX11_together_59 hl (k := 6) rfl (by rw [ev6_2]; exact i2_add _ _) (by decide) rfl (fun ls hl => ?_)
    refine lv_goto (tgt := 9) hx hb dX11_together_62 (by decide) ?_
    exact HC v4_2 v5_2 v6_2 _ _ _ (Option.some.inj hf).symm hv4_2 hv5_2 hv6_2 (lv_sub hl [3, 4, 5, 6, 2, 1, 0] rfl) w
  · replace hf := ite_t cd hf
    refine g_iconst X dX11_together_51 ?_
    refine lv_goto (tgt := 56) hx hb dX11_together_52 (by decide) ?_
    refine g_iadd X dX11_together_56 ?_
    obtain ⟨v5_3, ev5_3, hf⟩ := lt_some hf
    have hv5_3 : inR v5_3 := inR_of ev5_3 (inR_wrap _)
    refine g_ist (v := v5_3) (lv' := [(5, .int (i2 v5_3)), (4, .int (i2 v4_2)), (0, .ref (ad 80)), (1, .int (i2 v1)), (2, .int (i2 v2)), (3, .int (i2 v3)), (6, .int (i2 v6)), (7, .int (i2 v7))]) X ev5_3 dX11_together_57 hl (by decide) rfl (fun ls hl => ?_)
    obtain ⟨v6_3, ev6_3, hf⟩ := lt_some hf
    have hv6_3 : inR v6_3 := inR_of ev6_3 (inR_wrap _)
    refine lv_iinc (v := i2 v6_3) (lv' := [(6, .int (i2 v6_3)), (5, .int (i2 v5_3)), (4, .int (i2 v4_2)), (0, .ref (ad 80)), (1, .int (i2 v1)), (2, .int (i2 v2)), (3, .int (i2 v3)), (7, .int (i2 v7))]) hx hb dX11_together_59 hl (k := 6) rfl (by rw [ev6_3]; exact i2_add _ _) (by decide) rfl (fun ls hl => ?_)
    refine lv_goto (tgt := 9) hx hb dX11_together_62 (by decide) ?_
    exact HC v4_2 v5_3 v6_3 _ _ _ (Option.some.inj hf).symm hv4_2 hv5_3 hv6_3 (lv_sub hl [3, 4, 5, 6, 2, 1, 0] rfl) w
set_option maxRecDepth 100000 in
set_option maxHeartbeats 4000000 in
theorem b_X11_together_s9 (X : CX p s m args c cX11_together 8 RX11 D aC ad sg A H0) (v1 : Int) (hv1 : inR v1) (v2 : Int) (hv2 : inR v2) (v3 : Int) (hv3 : inR v3) {M : Mem} {o : (Int × Int × Int) ⊕ (Int × Int × Int)} (HC : ∀ (y4 : Int) (y5 : Int) (y6 : Int) (H : Heap) (locs : List Loc) (ls : Array Slot), o = .inl (y4, y5, y6) → inR y4 → inR y5 → inR y6 → lv_has ls 8 [(0, .ref (ad 80)), (1, .int (i2 v1)), (2, .int (i2 v2)), (3, .int (i2 v3)), (4, .int (i2 y4)), (5, .int (i2 y5)), (6, .int (i2 y6))] → WS D aC ad A H0 M H locs → W p l e rm_X11_together s m args below meth c H locs 0 0 Q (F0 m 9 ls [])) (HE : ∀ (y4 : Int) (y5 : Int) (y6 : Int) (H : Heap) (locs : List Loc) (ls : Array Slot), o = .inr (y4, y5, y6) → inR y4 → inR y5 → inR y6 → lv_has ls 8 [(0, .ref (ad 80)), (1, .int (i2 v1)), (2, .int (i2 v2)), (3, .int (i2 v3)), (4, .int (i2 y4)), (5, .int (i2 y5)), (6, .int (i2 y6))] → WS D aC ad A H0 M H locs → W p l e rm_X11_together s m args below meth c H locs 0 0 Q (F0 m 65 ls [])) (v4 : Int) (hv4 : inR v4) (v5 : Int) (hv5 : inR v5) (v6 : Int) (hv6 : inR v6) (hf : f_X11_together_s9 v1 v2 v3 M v4 v5 v6 = some o) {H : Heap} {locs : List Loc} {ls : Array Slot} (hl : lv_has ls 8 [(0, .ref (ad 80)), (1, .int (i2 v1)), (2, .int (i2 v2)), (3, .int (i2 v3)), (4, .int (i2 v4)), (5, .int (i2 v5)), (6, .int (i2 v6))]) (w : WS D aC ad A H0 M H locs) : W p l e rm_X11_together s m args below meth c H locs 0 0 Q (F0 m 9 ls []) := by
  have hx := X.1.1
  have hb := X.1.2.1
  unfold f_X11_together_s9 at hf
  refine lv_iload hx hb dX11_together_9 (lv_at hl 6 rfl) ?_
  refine g_iconst X dX11_together_11 ?_
  refine g_icmp_ge (tgt := 65) X hv6 (inL rfl) dX11_together_12 (by decide) (fun cd => ?_) (fun cd => ?_)
  · replace hf := ite_t cd hf
    exact HE v4 v5 v6 _ _ _ (Option.some.inj hf).symm hv4 hv5 hv6 hl w
  · replace hf := ite_f cd hf
    refine lv_aload_n hx hb dX11_together_15 rfl (lv_at hl 0 rfl) ?_
    refine lv_iload hx hb dX11_together_16 (lv_at hl 6 rfl) ?_
    refine lv_iload_n hx hb dX11_together_18 rfl (lv_at hl 1 rfl) ?_
    refine lv_iload_n hx hb dX11_together_19 rfl (lv_at hl 2 rfl) ?_
    refine lv_iload_n hx hb dX11_together_20 rfl (lv_at hl 3 rfl) ?_
    obtain ⟨r, hc, hf⟩ := obn_some hf
    refine g_cvi (As := [.int (i2 v6), .int (i2 v1), .int (i2 v2), .int (i2 v3)]) (rest := []) X w (k_X11_scaledOf X.2.2.1 v6 hv6 v1 hv1 v2 hv2 v3 hv3 w.2.2 hc) lk_X11_175 cl_11 KD_80 ⟨rfl, rfl⟩ ⟨nle rfl, nle rfl⟩ ⟨nle rfl, nle rfl⟩ hl.1 rfl (nle rfl) dX11_together_21 (fun hr H locs w => ?_)
    refine g_ist (v := r) (lv' := [(7, .int (i2 r)), (0, .ref (ad 80)), (1, .int (i2 v1)), (2, .int (i2 v2)), (3, .int (i2 v3)), (4, .int (i2 v4)), (5, .int (i2 v5)), (6, .int (i2 v6))]) X rfl dX11_together_24 hl (by decide) rfl (fun ls hl => ?_)
    refine lv_iload hx hb dX11_together_26 (lv_at hl 5 rfl) ?_
    refine lv_iload hx hb dX11_together_28 (lv_at hl 0 rfl) ?_
    refine g_iconst X dX11_together_30 ?_
    refine g_icmp_ne (tgt := 38) X hr (inL rfl) dX11_together_31 (by decide) (fun cd_2 => ?_) (fun cd_2 => ?_)
    · replace hf := ite_f cd_2 hf
      refine lv_iload hx hb dX11_together_38 (lv_at hl 0 rfl) ?_
      exact b_X11_together_j40k9 X v1 hv1 v2 hv2 v3 hv3 HC HE v4 hv4 v5 hv5 v6 hv6 r hr r hr v4 hv4 hf (lv_sub hl [1, 2, 3, 4, 5, 6, 7, 0] rfl) w
    · replace hf := ite_t cd_2 hf
      refine g_iconst X dX11_together_34 ?_
      refine lv_goto (tgt := 40) hx hb dX11_together_35 (by decide) ?_
      exact b_X11_together_j40k9 X v1 hv1 v2 hv2 v3 hv3 HC HE v4 hv4 v5 hv5 v6 hv6 r hr 0 (inL rfl) v4 hv4 hf (lv_sub hl [1, 2, 3, 4, 5, 6, 7, 0] rfl) w
set_option maxRecDepth 100000 in
set_option maxHeartbeats 4000000 in
theorem l_X11_together_9 (X : CX p s m args c cX11_together 8 RX11 D aC ad sg A H0) (v1 : Int) (hv1 : inR v1) (v2 : Int) (hv2 : inR v2) (v3 : Int) (hv3 : inR v3) {M : Mem} {out : Int × Int × Int} (HE : ∀ (y4 : Int) (y5 : Int) (y6 : Int) (H : Heap) (locs : List Loc) (ls : Array Slot), out = (y4, y5, y6) → inR y4 → inR y5 → inR y6 → lv_has ls 8 [(0, .ref (ad 80)), (1, .int (i2 v1)), (2, .int (i2 v2)), (3, .int (i2 v3)), (4, .int (i2 y4)), (5, .int (i2 y5)), (6, .int (i2 y6))] → WS D aC ad A H0 M H locs → W p l e rm_X11_together s m args below meth c H locs 0 0 Q (F0 m 65 ls [])) : ∀ (n : Nat) (v4 : Int) (v5 : Int) (v6 : Int), whl (fun s => f_X11_together_s9 v1 v2 v3 M s.1 s.2.1 s.2.2) n (v4, v5, v6) = some out → inR v4 → inR v5 → inR v6 → ∀ {H : Heap} {locs : List Loc} {ls : Array Slot}, lv_has ls 8 [(0, .ref (ad 80)), (1, .int (i2 v1)), (2, .int (i2 v2)), (3, .int (i2 v3)), (4, .int (i2 v4)), (5, .int (i2 v5)), (6, .int (i2 v6))] → WS D aC ad A H0 M H locs → W p l e rm_X11_together s m args below meth c H locs 0 0 Q (F0 m 9 ls []) := by
  intro n
  induction n with
  | zero => intro v4 v5 v6 hf; exact (whl_zero hf).elim
  | succ n ih =>
    intro v4 v5 v6 hf hv4 hv5 hv6 H locs ls hl w
    obtain ⟨o, hf, hk1, hk2⟩ := whl_step hf
    exact b_X11_together_s9 X v1 hv1 v2 hv2 v3 hv3 (fun y4 y5 y6 H locs ls eo hy4 hy5 hy6 hl w => ih y4 y5 y6 (hk1 _ eo) hy4 hy5 hy6 hl w) (fun y4 y5 y6 H locs ls eo hy4 hy5 hy6 hl w => HE y4 y5 y6 H locs ls (hk2 _ eo).symm hy4 hy5 hy6 hl w) v4 hv4 v5 hv5 v6 hv6 hf hl w
set_option maxRecDepth 100000 in
set_option maxHeartbeats 4000000 in
theorem b_X11_together_j65 (X : CX p s m args c cX11_together 8 RX11 D aC ad sg A H0) {M : Mem} {o : Int} (HR : ∀ (r : Int) (H : Heap) (locs : List Loc) (pc : Nat) (ls : Array Slot), o = r → inR r → WS D aC ad A H0 M H locs → decode cX11_together pc = .ok (.ireturn, 1) → W p l e rm_X11_together s m args below meth c H locs 0 0 Q (F0 m pc ls [.int (i2 r)])) (v4 : Int) (hv4 : inR v4) (v5 : Int) (hv5 : inR v5) (hf : f_X11_together_j65 v4 v5 M = some o) {H : Heap} {locs : List Loc} {ls : Array Slot} (hl : lv_has ls 8 [(4, .int (i2 v4)), (5, .int (i2 v5))]) (w : WS D aC ad A H0 M H locs) : W p l e rm_X11_together s m args below meth c H locs 0 0 Q (F0 m 65 ls []) := by
  have hx := X.1.1
  have hb := X.1.2.1
  unfold f_X11_together_j65 at hf
  refine lv_iload hx hb dX11_together_65 (lv_at hl 1 rfl) ?_
  refine g_if_ne (tgt := 74) X hv5 dX11_together_67 (by decide) (fun cd => ?_) (fun cd => ?_)
  · replace hf := ite_f cd hf
    refine lv_iload hx hb dX11_together_74 (lv_at hl 0 rfl) ?_
    refine lv_iload hx hb dX11_together_76 (lv_at hl 1 rfl) ?_
    obtain ⟨hg, hf⟩ := gd_some hf
    refine g_idiv X hv5 hg dX11_together_78 ?_
    exact HR (jdiv v4 v5) _ _ _ _ (Option.some.inj hf).symm (inR_toInt _) w dX11_together_79
  · replace hf := ite_t cd hf
    refine g_iconst X dX11_together_70 ?_
    refine lv_goto (tgt := 79) hx hb dX11_together_71 (by decide) ?_
    exact HR (-1) _ _ _ _ (Option.some.inj hf).symm (inL rfl) w dX11_together_79
set_option maxRecDepth 100000 in
set_option maxHeartbeats 4000000 in
theorem b_X11_together_0 (X : CX p s m args c cX11_together 8 RX11 D aC ad sg A H0) {M : Mem} {o : Int} (HR : ∀ (r : Int) (H : Heap) (locs : List Loc) (pc : Nat) (ls : Array Slot), o = r → inR r → WS D aC ad A H0 M H locs → decode cX11_together pc = .ok (.ireturn, 1) → W p l e rm_X11_together s m args below meth c H locs 0 0 Q (F0 m pc ls [.int (i2 r)])) (p1 : Int) (hp1 : inR p1) (p2 : Int) (hp2 : inR p2) (p3 : Int) (hp3 : inR p3) (hf : f_X11_together p1 p2 p3 M = some o) {H : Heap} {locs : List Loc} {ls : Array Slot} (hl : lv_has ls 8 [(0, .ref (ad 80)), (1, .int (i2 p1)), (2, .int (i2 p2)), (3, .int (i2 p3))]) (w : WS D aC ad A H0 M H locs) : W p l e rm_X11_together s m args below meth c H locs 0 0 Q (F0 m 0 ls []) := by
  have hx := X.1.1
  have hb := X.1.2.1
  unfold f_X11_together at hf
  refine g_iconst X dX11_together_0 ?_
  refine g_ist (v := 0) (lv' := [(4, .int (i2 0)), (0, .ref (ad 80)), (1, .int (i2 p1)), (2, .int (i2 p2)), (3, .int (i2 p3))]) X rfl dX11_together_1 hl (by decide) rfl (fun ls hl => ?_)
  refine g_iconst X dX11_together_3 ?_
  refine g_ist (v := 0) (lv' := [(5, .int (i2 0)), (4, .int (i2 0)), (0, .ref (ad 80)), (1, .int (i2 p1)), (2, .int (i2 p2)), (3, .int (i2 p3))]) X rfl dX11_together_4 hl (by decide) rfl (fun ls hl => ?_)
  refine g_iconst X dX11_together_6 ?_
  refine g_ist (v := 0) (lv' := [(6, .int (i2 0)), (5, .int (i2 0)), (4, .int (i2 0)), (0, .ref (ad 80)), (1, .int (i2 p1)), (2, .int (i2 p2)), (3, .int (i2 p3))]) X rfl dX11_together_7 hl (by decide) rfl (fun ls hl => ?_)
  obtain ⟨q, hq, h1⟩ := obn_some hf
  exact l_X11_together_9 X p1 hp1 p2 hp2 p3 hp3 (out := q) (fun y4 y5 y6 H locs ls eq hy4 hy5 hy6 hl w => b_X11_together_j65 X  HR y4 hy4 y5 hy5 (by subst eq; exact h1) (lv_sub hl [4, 5] rfl) w)  FU 0 0 0 hq (inL rfl) (inL rfl) (inL rfl) (lv_sub hl [3, 4, 5, 6, 2, 1, 0] rfl) w
set_option maxRecDepth 100000 in
set_option maxHeartbeats 4000000 in
theorem k_X11_together {l : Launch} {D : va_G} {aC : Nat → ClassId} {ad : Nat → Nat} {sg : SG} (hi : Inj ad) (p1 : Int) (hp1 : inR p1) (p2 : Int) (hp2 : inR p2) (p3 : Int) (hp3 : inR p3) {M : Mem} (hM : inM M) {r : Int} (hf : f_X11_together p1 p2 p3 M = some r) : MetI l D aC ad sg yX11_together cX11_together 8 (some .int) rm_X11_together 0 0 [.ref (ad 80), .int (i2 p1), .int (i2 p2), .int (i2 p3)] M r M := by
  refine MetI.ofI (by decide +kernel) (nle rfl) hi hM (fun p e s m args below meth c Q H0 ls X hl w hret => ?_)
  exact b_X11_together_0 X  (fun r1 H locs pc ls eo hP w dg => by cases eo; exact hret H locs pc ls hP w dg) p1 hp1 p2 hp2 p3 hp3 hf hl w
set_option maxRecDepth 100000 in
set_option maxHeartbeats 4000000 in
theorem b_X11_orFive_0 (X : CX p s m args c cX11_orFive 1 RX11 D aC ad sg A H0) {M : Mem} {o : Int} (HR : ∀ (r : Int) (H : Heap) (locs : List Loc) (pc : Nat) (ls : Array Slot), o = r → inR r → WS D aC ad A H0 M H locs → decode cX11_orFive pc = .ok (.ireturn, 1) → W p l e rm_X11_orFive s m args below meth c H locs 0 0 Q (F0 m pc ls [.int (i2 r)])) (p0 : Int) (hp0 : inR p0) (hf : f_X11_orFive p0 M = some o) {H : Heap} {locs : List Loc} {ls : Array Slot} (hl : lv_has ls 1 [(0, .int (i2 p0))]) (w : WS D aC ad A H0 M H locs) : W p l e rm_X11_orFive s m args below meth c H locs 0 0 Q (F0 m 0 ls []) := by
  have hx := X.1.1
  have hb := X.1.2.1
  unfold f_X11_orFive at hf
  refine lv_iload_n hx hb dX11_orFive_0 rfl (lv_at hl 0 rfl) ?_
  refine g_iconst X dX11_orFive_1 ?_
  refine g_icmp_ne (tgt := 9) X hp0 (inL rfl) dX11_orFive_2 (by decide) (fun cd => ?_) (fun cd => ?_)
  · replace hf := ite_f cd hf
    refine lv_iload_n hx hb dX11_orFive_9 rfl (lv_at hl 0 rfl) ?_
    exact HR p0 _ _ _ _ (Option.some.inj hf).symm hp0 w dX11_orFive_10
  · replace hf := ite_t cd hf
    refine g_iconst X dX11_orFive_5 ?_
    refine lv_goto (tgt := 10) hx hb dX11_orFive_6 (by decide) ?_
    exact HR 5 _ _ _ _ (Option.some.inj hf).symm (inL rfl) w dX11_orFive_10
end
