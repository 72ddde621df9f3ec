section
variable {p : Program} {l : Launch} {e : Env} {s : State} {m : MethodId} {args : Array Value} {below : List Frame} {meth : Method} {c : Code} {Q : State → Prop} {D : va_G} {aC : Nat → ClassId} {ad : Nat → Nat} {sg : SG} {A : Nat → Prop} {H0 : Heap}
set_option maxRecDepth 100000 in
set_option maxHeartbeats 4000000 in
theorem b_X10_within_0 (X : CX p s m args c cX10_within 3 RX10 D aC ad sg A H0) {M : Mem} {o : Int} (HR : ∀ (r : Int) (H : Heap) (locs : List Loc) (pc : Nat) (ls : Array Slot), o = r → isZ r → WS D aC ad A H0 M H locs → decode cX10_within pc = .ok (.ireturn, 1) → W p l e rm_X10_within s m args below meth c H locs 0 0 Q (F0 m pc ls [.int (i2 r)])) (p0 : Int) (hp0 : inR p0) (p1 : Int) (hp1 : inR p1) (p2 : Int) (hp2 : inR p2) (hf : f_X10_within p0 p1 p2 M = some o) {H : Heap} {locs : List Loc} {ls : Array Slot} (hl : lv_has ls 3 [(0, .int (i2 p0)), (1, .int (i2 p1)), (2, .int (i2 p2))]) (w : WS D aC ad A H0 M H locs) : W p l e rm_X10_within s m args below meth c H locs 0 0 Q (F0 m 0 ls []) := by
  have hx := X.1.1
  have hb := X.1.2.1
  unfold f_X10_within at hf
  refine lv_iload_n hx hb dX10_within_0 rfl (lv_at hl 0 rfl) ?_
  refine lv_iload_n hx hb dX10_within_1 rfl (lv_at hl 1 rfl) ?_
  refine g_icmp_lt (tgt := 14) X hp0 hp1 dX10_within_2 (by decide) (fun cd => ?_) (fun cd => ?_)
  · replace hf := ite_t cd hf
    refine g_iconst X dX10_within_14 ?_
    exact HR 0 _ _ _ _ (Option.some.inj hf).symm (Or.inl rfl) w dX10_within_15
  · replace hf := ite_f cd hf
    refine lv_iload_n hx hb dX10_within_5 rfl (lv_at hl 0 rfl) ?_
    refine lv_iload_n hx hb dX10_within_6 rfl (lv_at hl 2 rfl) ?_
    refine g_icmp_gt (tgt := 14) X hp0 hp2 dX10_within_7 (by decide) (fun cd_2 => ?_) (fun cd_2 => ?_)
    · replace hf := ite_t cd_2 hf
      refine g_iconst X dX10_within_14 ?_
      exact HR 0 _ _ _ _ (Option.some.inj hf).symm (Or.inl rfl) w dX10_within_15
    · replace hf := ite_f cd_2 hf
      refine g_iconst X dX10_within_10 ?_
      refine lv_goto (tgt := 15) hx hb dX10_within_11 (by decide) ?_
      exact HR 1 _ _ _ _ (Option.some.inj hf).symm (Or.inr rfl) w dX10_within_15
set_option maxRecDepth 100000 in
set_option maxHeartbeats 4000000 in
theorem k_X10_within {l : Launch} {D : va_G} {aC : Nat → ClassId} {ad : Nat → Nat} {sg : SG} (hi : Inj ad) (p0 : Int) (hp0 : inR p0) (p1 : Int) (hp1 : inR p1) (p2 : Int) (hp2 : inR p2) {M : Mem} (hM : inM M) {r : Int} (hf : f_X10_within p0 p1 p2 M = some r) : MetI l D aC ad sg yX10_within cX10_within 3 (some .boolean) rm_X10_within 0 0 [.int (i2 p0), .int (i2 p1), .int (i2 p2)] M r M := by
  refine MetI.ofZ (by decide +kernel) (nle rfl) hi hM (fun p e s m args below meth c Q H0 ls X hl w hret => ?_)
  exact b_X10_within_0 X  (fun r1 H locs pc ls eo hP w dg => by cases eo; exact hret H locs pc ls hP w dg) p0 hp0 p1 hp1 p2 hp2 hf hl w
end
section
variable {p : Program} {l : Launch} {e : Env} {s : State} {m : MethodId} {args : Array Value} {below : List Frame} {meth : Method} {c : Code} {Q : State → Prop} {D : va_G} {aC : Nat → ClassId} {ad : Nat → Nat} {sg : SG} {A : Nat → Prop} {H0 : Heap}
set_option maxRecDepth 100000 in
set_option maxHeartbeats 4000000 in
theorem b_X6_next_0 (X : CX p s m args c cX6_next 1 RX6 D aC ad sg A H0) {o : Mem} (HR : ∀ (M1 : Mem) (H : Heap) (locs : List Loc) (pc : Nat) (ls : Array Slot), o = M1 → WS D aC ad A H0 M1 H locs → decode cX6_next pc = .ok (.return_, 1) → W p l e rm_X6_next s m args below meth c H locs 0 0 Q (F0 m pc ls [])) (M : Mem) (hf : f_X6_next M = some o) {H : Heap} {locs : List Loc} {ls : Array Slot} (hl : lv_has ls 1 [(0, .ref (ad 29))]) (w : WS D aC ad A H0 M H locs) : W p l e rm_X6_next s m args below meth c H locs 0 0 Q (F0 m 0 ls []) := by
  have hx := X.1.1
  have hb := X.1.2.1
  unfold f_X6_next at hf
  refine lv_aload_n hx hb dX6_next_0 rfl (lv_at hl 0 rfl) ?_
  refine g_geti X w fg_X6_36 KD_29 FR_29_4 dX6_next_1 ?_
  refine g_iconst X dX6_next_4 ?_
  refine g_iadd X dX6_next_5 ?_
  refine lv_aload_n hx hb dX6_next_6 rfl (lv_at hl 0 rfl) ?_
  refine g_getr X w fg_X6_15 KD_29 FR_29_2 dX6_next_7 ?_
  refine g_geti X w fg_X6_49 KD_24 FR_24_2 dX6_next_10 ?_
  refine g_icmp_ge (tgt := 74) X (inR_wrap _) (w.2.2 _ _) dX6_next_13 (by decide) (fun cd => ?_) (fun cd => ?_)
  · replace hf := ite_t cd hf
    exact HR M _ _ _ _ (Option.some.inj hf).symm w dX6_next_74
  · replace hf := ite_f cd hf
    refine lv_aload_n hx hb dX6_next_16 rfl (lv_at hl 0 rfl) ?_
    refine lv_dup hx hb dX6_next_17 rfl ?_
    refine g_geti X w fg_X6_36 KD_29 FR_29_4 dX6_next_18 ?_
    refine g_iconst X dX6_next_21 ?_
    refine g_iadd X dX6_next_22 ?_
    obtain ⟨M_2, eM_2, hf⟩ := lt_some hf
    refine g_puti X w fp_X6_36 KD_29 FR_29_4 (inR_wrap _) dX6_next_23 (fun H locs w_M_2 => ?_)
    rw [← eM_2] at w_M_2
    refine lv_aload_n hx hb dX6_next_26 rfl (lv_at hl 0 rfl) ?_
    refine lv_aload_n hx hb dX6_next_27 rfl (lv_at hl 0 rfl) ?_
    refine g_getr X w_M_2 fg_X6_15 KD_29 FR_29_2 dX6_next_28 ?_
    refine g_getr X w_M_2 fg_X6_52 KD_24 FR_24_3 dX6_next_31 ?_
    refine lv_aload_n hx hb dX6_next_34 rfl (lv_at hl 0 rfl) ?_
    refine g_geti X w_M_2 fg_X6_36 KD_29 FR_29_4 dX6_next_35 ?_
    obtain ⟨hg, hf⟩ := gd_some hf
    refine g_iald X w_M_2 KD_26 (w_M_2.2.2 _ _) hg dX6_next_38 ?_
    obtain ⟨M_3, eM_3, hf⟩ := lt_some hf
    refine g_puti X w_M_2 fp_X6_42 KD_29 FR_29_5 (w_M_2.2.2 _ _) dX6_next_39 (fun H locs w_M_3 => ?_)
    rw [← eM_3] at w_M_3
    refine lv_aload_n hx hb dX6_next_42 rfl (lv_at hl 0 rfl) ?_
    refine lv_aload_n hx hb dX6_next_43 rfl (lv_at hl 0 rfl) ?_
    refine g_getr X w_M_3 fg_X6_15 KD_29 FR_29_2 dX6_next_44 ?_
    refine g_getr X w_M_3 fg_X6_56 KD_24 FR_24_4 dX6_next_47 ?_
    refine lv_aload_n hx hb dX6_next_50 rfl (lv_at hl 0 rfl) ?_
    refine g_geti X w_M_3 fg_X6_36 KD_29 FR_29_4 dX6_next_51 ?_
    obtain ⟨hg_2, hf⟩ := gd_some hf
    refine g_iald X w_M_3 KD_27 (w_M_3.2.2 _ _) hg_2 dX6_next_54 ?_
    obtain ⟨M_4, eM_4, hf⟩ := lt_some hf
    refine g_puti X w_M_3 fp_X6_59 KD_29 FR_29_6 (w_M_3.2.2 _ _) dX6_next_55 (fun H locs w_M_4 => ?_)
    rw [← eM_4] at w_M_4
    refine lv_aload_n hx hb dX6_next_58 rfl (lv_at hl 0 rfl) ?_
    refine lv_aload_n hx hb dX6_next_59 rfl (lv_at hl 0 rfl) ?_
    refine g_getr X w_M_4 fg_X6_15 KD_29 FR_29_2 dX6_next_60 ?_
    refine g_getr X w_M_4 fg_X6_62 KD_24 FR_24_5 dX6_next_63 ?_
    refine lv_aload_n hx hb dX6_next_66 rfl (lv_at hl 0 rfl) ?_
    refine g_geti X w_M_4 fg_X6_36 KD_29 FR_29_4 dX6_next_67 ?_
    obtain ⟨hg_3, hf⟩ := gd_some hf
    refine g_iald X w_M_4 KD_28 (w_M_4.2.2 _ _) hg_3 dX6_next_70 ?_
    obtain ⟨M_5, eM_5, hf⟩ := lt_some hf
    refine g_puti X w_M_4 fp_X6_65 KD_29 FR_29_7 (w_M_4.2.2 _ _) dX6_next_71 (fun H locs w_M_5 => ?_)
    rw [← eM_5] at w_M_5
    exact HR M_5 _ _ _ _ (Option.some.inj hf).symm w_M_5 dX6_next_74
set_option maxRecDepth 100000 in
set_option maxHeartbeats 4000000 in
theorem k_X6_next {l : Launch} {D : va_G} {aC : Nat → ClassId} {ad : Nat → Nat} {sg : SG} (hi : Inj ad)  {M : Mem} (hM : inM M) {M' : Mem} (hf : f_X6_next M = some M') : MetV l D aC ad sg yX6_next cX6_next 1 rm_X6_next 0 0 [.ref (ad 29)] M M' := by
  refine MetV.of (by decide +kernel) (nle rfl) hi hM (fun p e s m args below meth c Q H0 ls X hl w hret => ?_)
  exact b_X6_next_0 X  (fun M1 H locs pc ls eo w dg => by cases eo; exact hret H locs pc ls w dg) M hf hl w
set_option maxRecDepth 100000 in
set_option maxHeartbeats 4000000 in
theorem b_X6_refuse_0 (X : CX p s m args c cX6_refuse 2 RX6 D aC ad sg A H0) {o : Int × Mem} (HR : ∀ (r : Int) (M1 : Mem) (H : Heap) (locs : List Loc) (pc : Nat) (ls : Array Slot), o = (r, M1) → isZ r → WS D aC ad A H0 M1 H locs → decode cX6_refuse pc = .ok (.ireturn, 1) → W p l e rm_X6_refuse s m args below meth c H locs 0 0 Q (F0 m pc ls [.int (i2 r)])) (p1 : Int) (hp1 : inR p1) (M : Mem) (hf : f_X6_refuse p1 M = some o) {H : Heap} {locs : List Loc} {ls : Array Slot} (hl : lv_has ls 2 [(0, .ref (ad 29)), (1, .int (i2 p1))]) (w : WS D aC ad A H0 M H locs) : W p l e rm_X6_refuse s m args below meth c H locs 0 0 Q (F0 m 0 ls []) := by
  have hx := X.1.1
  have hb := X.1.2.1
  unfold f_X6_refuse at hf
  refine lv_aload_n hx hb dX6_refuse_0 rfl (lv_at hl 0 rfl) ?_
  refine lv_iload_n hx hb dX6_refuse_1 rfl (lv_at hl 1 rfl) ?_
  obtain ⟨M_2, eM_2, hf⟩ := lt_some hf
  refine g_puti X w fp_X6_28 KD_29 FR_29_0 hp1 dX6_refuse_2 (fun H locs w_M_2 => ?_)
  rw [← eM_2] at w_M_2
  refine lv_aload_n hx hb dX6_refuse_5 rfl (lv_at hl 0 rfl) ?_
  refine lv_aload_n hx hb dX6_refuse_6 rfl (lv_at hl 0 rfl) ?_
  refine g_geti X w_M_2 fg_X6_59 KD_29 FR_29_6 dX6_refuse_7 ?_
  obtain ⟨M_3, eM_3, hf⟩ := lt_some hf
  refine g_puti X w_M_2 fp_X6_9 KD_29 FR_29_1 (w_M_2.2.2 _ _) dX6_refuse_10 (fun H locs w_M_3 => ?_)
  rw [← eM_3] at w_M_3
  refine g_iconst X dX6_refuse_13 ?_
  exact HR 0 M_3 _ _ _ _ (Option.some.inj hf).symm (Or.inl rfl) w_M_3 dX6_refuse_14
set_option maxRecDepth 100000 in
set_option maxHeartbeats 4000000 in
theorem k_X6_refuse {l : Launch} {D : va_G} {aC : Nat → ClassId} {ad : Nat → Nat} {sg : SG} (hi : Inj ad) (p1 : Int) (hp1 : inR p1) {M : Mem} (hM : inM M) {r : Int} {M' : Mem} (hf : f_X6_refuse p1 M = some (r, M')) : MetI l D aC ad sg yX6_refuse cX6_refuse 2 (some .boolean) rm_X6_refuse 0 0 [.ref (ad 29), .int (i2 p1)] M r M' := by
  refine MetI.ofZ (by decide +kernel) (nle rfl) hi hM (fun p e s m args below meth c Q H0 ls X hl w hret => ?_)
  exact b_X6_refuse_0 X  (fun r1 M1 H locs pc ls eo hP w dg => by cases eo; exact hret H locs pc ls hP w dg) p1 hp1 M hf hl w
set_option maxRecDepth 100000 in
set_option maxHeartbeats 4000000 in
theorem b_X6_readCode_0 (X : CX p s m args c cX6_readCode 2 RX6 D aC ad sg A H0) {o : Int × Mem} (HR : ∀ (r : Int) (M1 : Mem) (H : Heap) (locs : List Loc) (pc : Nat) (ls : Array Slot), o = (r, M1) → isZ r → WS D aC ad A H0 M1 H locs → decode cX6_readCode pc = .ok (.ireturn, 1) → W p l e rm_X6_readCode s m args below meth c H locs 0 0 Q (F0 m pc ls [.int (i2 r)])) (p1 : Int) (hp1 : inR p1) (M : Mem) (hf : f_X6_readCode p1 M = some o) {H : Heap} {locs : List Loc} {ls : Array Slot} (hl : lv_has ls 2 [(0, .ref (ad 29)), (1, .int (i2 p1))]) (w : WS D aC ad A H0 M H locs) : W p l e rm_X6_readCode s m args below meth c H locs 0 0 Q (F0 m 0 ls []) := by
  have hx := X.1.1
  have hb := X.1.2.1
  unfold f_X6_readCode at hf
  refine lv_aload_n hx hb dX6_readCode_0 rfl (lv_at hl 0 rfl) ?_
  refine g_geti X w fg_X6_42 KD_29 FR_29_5 dX6_readCode_1 ?_
  refine lv_iload_n hx hb dX6_readCode_4 rfl (lv_at hl 1 rfl) ?_
  refine g_icmp_eq (tgt := 14) X (w.2.2 _ _) hp1 dX6_readCode_5 (by decide) (fun cd => ?_) (fun cd => ?_)
  · replace hf := ite_t cd hf
    refine lv_aload_n hx hb dX6_readCode_14 rfl (lv_at hl 0 rfl) ?_
    obtain ⟨M_2, hc, hf⟩ := obn_some hf
    refine g_cvv (As := []) (rest := []) X w (k_X6_next X.2.2.1  w.2.2 hc) lk_X6_39 cl_6 KD_29 ⟨rfl, rfl⟩ ⟨nle rfl, nle rfl⟩ ⟨nle rfl, nle rfl⟩ hl.1 rfl (nle rfl) dX6_readCode_15 (fun H locs w_M_2 => ?_)
    refine g_iconst X dX6_readCode_18 ?_
    exact HR 1 M_2 _ _ _ _ (Option.some.inj hf).symm (Or.inr rfl) w_M_2 dX6_readCode_19
  · replace hf := ite_f cd hf
    refine lv_aload_n hx hb dX6_readCode_8 rfl (lv_at hl 0 rfl) ?_
    refine g_iconst X dX6_readCode_9 ?_
    obtain ⟨r, M_3, hc, hf⟩ := bnd_some hf
    refine g_cvi (As := [.int (i2 1)]) (rest := []) X w (k_X6_refuse X.2.2.1 1 (inL rfl) w.2.2 hc) lk_X6_72 cl_6 KD_29 ⟨rfl, rfl⟩ ⟨nle rfl, nle rfl⟩ ⟨nle rfl, nle rfl⟩ hl.1 rfl (nle rfl) dX6_readCode_10 (fun hr H locs w_M_3 => ?_)
    obtain ⟨hz, hf⟩ := gd_some hf
    exact HR r M_3 _ _ _ _ (Option.some.inj hf).symm hz w_M_3 dX6_readCode_13
set_option maxRecDepth 100000 in
set_option maxHeartbeats 4000000 in
theorem k_X6_readCode {l : Launch} {D : va_G} {aC : Nat → ClassId} {ad : Nat → Nat} {sg : SG} (hi : Inj ad) (p1 : Int) (hp1 : inR p1) {M : Mem} (hM : inM M) {r : Int} {M' : Mem} (hf : f_X6_readCode p1 M = some (r, M')) : MetI l D aC ad sg yX6_readCode cX6_readCode 2 (some .boolean) rm_X6_readCode 0 0 [.ref (ad 29), .int (i2 p1)] M r M' := by
  refine MetI.ofZ (by decide +kernel) (nle rfl) hi hM (fun p e s m args below meth c Q H0 ls X hl w hret => ?_)
  exact b_X6_readCode_0 X  (fun r1 M1 H locs pc ls eo hP w dg => by cases eo; exact hret H locs pc ls hP w dg) p1 hp1 M hf hl w
set_option maxRecDepth 100000 in
set_option maxHeartbeats 4000000 in
theorem b_X6_readTerm_j118 (X : CX p s m args c cX6_readTerm 3 RX6 D aC ad sg A H0) {o : Int × Mem} (HR : ∀ (r : Int) (M1 : Mem) (H : Heap) (locs : List Loc) (pc : Nat) (ls : Array Slot), o = (r, M1) → isZ r → WS D aC ad A H0 M1 H locs → decode cX6_readTerm pc = .ok (.ireturn, 1) → W p l e rm_X6_readTerm s m args below meth c H locs 0 0 Q (F0 m pc ls [.int (i2 r)])) (v1 : Int) (hv1 : inR v1) (v2 : Int) (hv2 : inR v2) (s0 : Int) (hs0 : inR s0) (M : Mem) (hf : f_X6_readTerm_j118 v1 v2 s0 M = some o) {H : Heap} {locs : List Loc} {ls : Array Slot} (hl : lv_has ls 3 [(0, .ref (ad 29)), (1, .int (i2 v1)), (2, .int (i2 v2))]) (w : WS D aC ad A H0 M H locs) : W p l e rm_X6_readTerm s m args below meth c H locs 0 0 Q (F0 m 118 ls [.int (i2 s0), .ref (ad 29)]) := by
  have hx := X.1.1
  have hb := X.1.2.1
  unfold f_X6_readTerm_j118 at hf
  obtain ⟨r, M_2, hc, hf⟩ := bnd_some hf
  refine g_cvi (As := [.int (i2 s0)]) (rest := []) X w (k_X6_readCode X.2.2.1 s0 hs0 w.2.2 hc) lk_X6_85 cl_6 KD_29 ⟨rfl, rfl⟩ ⟨nle rfl, nle rfl⟩ ⟨nle rfl, nle rfl⟩ hl.1 rfl (nle rfl) dX6_readTerm_118 (fun hr H locs w_M_2 => ?_)
  refine g_if_ne (tgt := 126) X hr dX6_readTerm_121 (by decide) (fun cd => ?_) (fun cd => ?_)
  · replace hf := ite_f cd hf
    refine lv_iload_n hx hb dX6_readTerm_126 rfl (lv_at hl 2 rfl) ?_
    refine g_bipush X dX6_readTerm_127 (by decide) ?_
    refine g_icmp_ne (tgt := 156) X hv2 (inL rfl) dX6_readTerm_129 (by decide) (fun cd_2 => ?_) (fun cd_2 => ?_)
    · replace hf := ite_f cd_2 hf
      refine lv_aload_n hx hb dX6_readTerm_156 rfl (lv_at hl 0 rfl) ?_
      obtain ⟨hru, hf⟩ := gd_some hf
      refine g_getd X w_M_2 fg_X6_19 KD_29 FR_29_3 hru dX6_readTerm_157 ?_
      refine g_getr X w_M_2 fg_X6_123 (KD_ru hru) (FR_ru_8 hru) dX6_readTerm_160 ?_
      refine lv_iload_n hx hb dX6_readTerm_163 rfl (lv_at hl 1 rfl) ?_
      refine lv_aload_n hx hb dX6_readTerm_164 rfl (lv_at hl 0 rfl) ?_
      refine g_geti X w_M_2 fg_X6_65 KD_29 FR_29_7 dX6_readTerm_165 ?_
      obtain ⟨hg, hf⟩ := gd_some hf
      obtain ⟨M_3, eM_3, hf⟩ := lt_some hf
      refine g_iast X w_M_2 (KD_ru_8 hru) hv1 hg (w_M_2.2.2 _ _) dX6_readTerm_168 (fun H locs w_M_3 => ?_)
      rw [← eM_3] at w_M_3
      refine lv_aload_n hx hb dX6_readTerm_169 rfl (lv_at hl 0 rfl) ?_
      refine g_bipush X dX6_readTerm_170 (by decide) ?_
      obtain ⟨r_2, M_4, hc, hf⟩ := bnd_some hf
      refine g_cvi (As := [.int (i2 (-3))]) (rest := []) X w_M_3 (k_X6_readCode X.2.2.1 (-3) (inL rfl) w_M_3.2.2 hc) lk_X6_85 cl_6 KD_29 ⟨rfl, rfl⟩ ⟨nle rfl, nle rfl⟩ ⟨nle rfl, nle rfl⟩ hl.1 rfl (nle rfl) dX6_readTerm_172 (fun hr_2 H locs w_M_4 => ?_)
      obtain ⟨hz, hf⟩ := gd_some hf
      exact HR r_2 M_4 _ _ _ _ (Option.some.inj hf).symm hz w_M_4 dX6_readTerm_175
    · replace hf := ite_t cd_2 hf
      refine lv_aload_n hx hb dX6_readTerm_132 rfl (lv_at hl 0 rfl) ?_
      refine g_geti X w_M_2 fg_X6_42 KD_29 FR_29_5 dX6_readTerm_133 ?_
      refine g_bipush X dX6_readTerm_136 (by decide) ?_
      refine g_icmp_ne (tgt := 156) X (w_M_2.2.2 _ _) (inL rfl) dX6_readTerm_138 (by decide) (fun cd_3 => ?_) (fun cd_3 => ?_)
      · replace hf := ite_f cd_3 hf
        refine lv_aload_n hx hb dX6_readTerm_156 rfl (lv_at hl 0 rfl) ?_
        obtain ⟨hru_2, hf⟩ := gd_some hf
        refine g_getd X w_M_2 fg_X6_19 KD_29 FR_29_3 hru_2 dX6_readTerm_157 ?_
        refine g_getr X w_M_2 fg_X6_123 (KD_ru hru_2) (FR_ru_8 hru_2) dX6_readTerm_160 ?_
        refine lv_iload_n hx hb dX6_readTerm_163 rfl (lv_at hl 1 rfl) ?_
        refine lv_aload_n hx hb dX6_readTerm_164 rfl (lv_at hl 0 rfl) ?_
        refine g_geti X w_M_2 fg_X6_65 KD_29 FR_29_7 dX6_readTerm_165 ?_
        obtain ⟨hg_2, hf⟩ := gd_some hf
        obtain ⟨M_5, eM_5, hf⟩ := lt_some hf
        refine g_iast X w_M_2 (KD_ru_8 hru_2) hv1 hg_2 (w_M_2.2.2 _ _) dX6_readTerm_168 (fun H locs w_M_5 => ?_)
        rw [← eM_5] at w_M_5
        refine lv_aload_n hx hb dX6_readTerm_169 rfl (lv_at hl 0 rfl) ?_
        refine g_bipush X dX6_readTerm_170 (by decide) ?_
        obtain ⟨r_3, M_6, hc, hf⟩ := bnd_some hf
        refine g_cvi (As := [.int (i2 (-3))]) (rest := []) X w_M_5 (k_X6_readCode X.2.2.1 (-3) (inL rfl) w_M_5.2.2 hc) lk_X6_85 cl_6 KD_29 ⟨rfl, rfl⟩ ⟨nle rfl, nle rfl⟩ ⟨nle rfl, nle rfl⟩ hl.1 rfl (nle rfl) dX6_readTerm_172 (fun hr_3 H locs w_M_6 => ?_)
        obtain ⟨hz_2, hf⟩ := gd_some hf
        exact HR r_3 M_6 _ _ _ _ (Option.some.inj hf).symm hz_2 w_M_6 dX6_readTerm_175
      · replace hf := ite_t cd_3 hf
        refine lv_aload_n hx hb dX6_readTerm_141 rfl (lv_at hl 0 rfl) ?_
        refine g_geti X w_M_2 fg_X6_65 KD_29 FR_29_7 dX6_readTerm_142 ?_
        refine g_bipush X dX6_readTerm_145 (by decide) ?_
        refine g_icmp_le (tgt := 156) X (w_M_2.2.2 _ _) (inL rfl) dX6_readTerm_147 (by decide) (fun cd_4 => ?_) (fun cd_4 => ?_)
        · replace hf := ite_t cd_4 hf
          refine lv_aload_n hx hb dX6_readTerm_156 rfl (lv_at hl 0 rfl) ?_
          obtain ⟨hru_3, hf⟩ := gd_some hf
          refine g_getd X w_M_2 fg_X6_19 KD_29 FR_29_3 hru_3 dX6_readTerm_157 ?_
          refine g_getr X w_M_2 fg_X6_123 (KD_ru hru_3) (FR_ru_8 hru_3) dX6_readTerm_160 ?_
          refine lv_iload_n hx hb dX6_readTerm_163 rfl (lv_at hl 1 rfl) ?_
          refine lv_aload_n hx hb dX6_readTerm_164 rfl (lv_at hl 0 rfl) ?_
          refine g_geti X w_M_2 fg_X6_65 KD_29 FR_29_7 dX6_readTerm_165 ?_
          obtain ⟨hg_3, hf⟩ := gd_some hf
          obtain ⟨M_7, eM_7, hf⟩ := lt_some hf
          refine g_iast X w_M_2 (KD_ru_8 hru_3) hv1 hg_3 (w_M_2.2.2 _ _) dX6_readTerm_168 (fun H locs w_M_7 => ?_)
          rw [← eM_7] at w_M_7
          refine lv_aload_n hx hb dX6_readTerm_169 rfl (lv_at hl 0 rfl) ?_
          refine g_bipush X dX6_readTerm_170 (by decide) ?_
          obtain ⟨r_4, M_8, hc, hf⟩ := bnd_some hf
          refine g_cvi (As := [.int (i2 (-3))]) (rest := []) X w_M_7 (k_X6_readCode X.2.2.1 (-3) (inL rfl) w_M_7.2.2 hc) lk_X6_85 cl_6 KD_29 ⟨rfl, rfl⟩ ⟨nle rfl, nle rfl⟩ ⟨nle rfl, nle rfl⟩ hl.1 rfl (nle rfl) dX6_readTerm_172 (fun hr_4 H locs w_M_8 => ?_)
          obtain ⟨hz_3, hf⟩ := gd_some hf
          exact HR r_4 M_8 _ _ _ _ (Option.some.inj hf).symm hz_3 w_M_8 dX6_readTerm_175
        · replace hf := ite_f cd_4 hf
          refine lv_aload_n hx hb dX6_readTerm_150 rfl (lv_at hl 0 rfl) ?_
          refine g_iconst X dX6_readTerm_151 ?_
          obtain ⟨r_5, M_9, hc, hf⟩ := bnd_some hf
          refine g_cvi (As := [.int (i2 2)]) (rest := []) X w_M_2 (k_X6_refuse X.2.2.1 2 (inL rfl) w_M_2.2.2 hc) lk_X6_72 cl_6 KD_29 ⟨rfl, rfl⟩ ⟨nle rfl, nle rfl⟩ ⟨nle rfl, nle rfl⟩ hl.1 rfl (nle rfl) dX6_readTerm_152 (fun hr_5 H locs w_M_9 => ?_)
          obtain ⟨hz_4, hf⟩ := gd_some hf
          exact HR r_5 M_9 _ _ _ _ (Option.some.inj hf).symm hz_4 w_M_9 dX6_readTerm_155
  · replace hf := ite_t cd hf
    refine g_iconst X dX6_readTerm_124 ?_
    exact HR 0 M_2 _ _ _ _ (Option.some.inj hf).symm (Or.inl rfl) w_M_2 dX6_readTerm_125
set_option maxRecDepth 100000 in
set_option maxHeartbeats 4000000 in
theorem b_X6_readTerm_j36 (X : CX p s m args c cX6_readTerm 3 RX6 D aC ad sg A H0) {o : Int × Mem} (HR : ∀ (r : Int) (M1 : Mem) (H : Heap) (locs : List Loc) (pc : Nat) (ls : Array Slot), o = (r, M1) → isZ r → WS D aC ad A H0 M1 H locs → decode cX6_readTerm pc = .ok (.ireturn, 1) → W p l e rm_X6_readTerm s m args below meth c H locs 0 0 Q (F0 m pc ls [.int (i2 r)])) (v1 : Int) (hv1 : inR v1) (M : Mem) (hf : f_X6_readTerm_j36 v1 M = some o) {H : Heap} {locs : List Loc} {ls : Array Slot} (hl : lv_has ls 3 [(0, .ref (ad 29)), (1, .int (i2 v1))]) (w : WS D aC ad A H0 M H locs) : W p l e rm_X6_readTerm s m args below meth c H locs 0 0 Q (F0 m 36 ls []) := by
  have hx := X.1.1
  have hb := X.1.2.1
  unfold f_X6_readTerm_j36 at hf
  refine lv_aload_n hx hb dX6_readTerm_36 rfl (lv_at hl 0 rfl) ?_
  refine g_geti X w fg_X6_42 KD_29 FR_29_5 dX6_readTerm_37 ?_
  obtain ⟨v2, ev2, hf⟩ := lt_some hf
  have hv2 : inR v2 := inR_of ev2 (w.2.2 _ _)
  refine g_istn (v := v2) (lv' := [(2, .int (i2 v2)), (0, .ref (ad 29)), (1, .int (i2 v1))]) X ev2 dX6_readTerm_40 rfl hl (by decide) rfl (fun ls hl => ?_)
  refine lv_iload_n hx hb dX6_readTerm_41 rfl (lv_at hl 0 rfl) ?_
  refine g_iconst X dX6_readTerm_42 ?_
  refine g_bipush X dX6_readTerm_43 (by decide) ?_
  obtain ⟨r, hc, hf⟩ := obn_some hf
  refine g_csn (As := [.int (i2 v2), .int (i2 0), .int (i2 7)]) (rest := []) X w (k_X10_within X.2.2.1 v2 hv2 0 (inL rfl) 7 (inL rfl) w.2.2 hc) lk_X6_68 ⟨rfl, rfl⟩ ⟨nle rfl, nle rfl⟩ ⟨nle rfl, nle rfl⟩ hl.1 rfl (nle rfl) dX6_readTerm_45 (fun hr H locs w => ?_)
  refine g_if_ne (tgt := 57) X hr dX6_readTerm_48 (by decide) (fun cd => ?_) (fun cd => ?_)
  · replace hf := ite_f cd hf
    refine lv_aload_n hx hb dX6_readTerm_57 rfl (lv_at hl 1 rfl) ?_
    obtain ⟨hru, hf⟩ := gd_some hf
    refine g_getd X w fg_X6_19 KD_29 FR_29_3 hru dX6_readTerm_58 ?_
    refine g_getr X w fg_X6_117 (KD_ru hru) (FR_ru_6 hru) dX6_readTerm_61 ?_
    refine lv_iload_n hx hb dX6_readTerm_64 rfl (lv_at hl 2 rfl) ?_
    refine lv_iload_n hx hb dX6_readTerm_65 rfl (lv_at hl 0 rfl) ?_
    obtain ⟨hg, hf⟩ := gd_some hf
    obtain ⟨M_2, eM_2, hf⟩ := lt_some hf
    refine g_iast X w (KD_ru_6 hru) hv1 hg hv2 dX6_readTerm_66 (fun H locs w_M_2 => ?_)
    rw [← eM_2] at w_M_2
    refine lv_aload_n hx hb dX6_readTerm_67 rfl (lv_at hl 1 rfl) ?_
    obtain ⟨M_3, hc, hf⟩ := obn_some hf
    refine g_cvv (As := []) (rest := []) X w_M_2 (k_X6_next X.2.2.1  w_M_2.2.2 hc) lk_X6_39 cl_6 KD_29 ⟨rfl, rfl⟩ ⟨nle rfl, nle rfl⟩ ⟨nle rfl, nle rfl⟩ hl.1 rfl (nle rfl) dX6_readTerm_68 (fun H locs w_M_3 => ?_)
    refine lv_iload_n hx hb dX6_readTerm_71 rfl (lv_at hl 0 rfl) ?_
    refine g_bipush X dX6_readTerm_72 (by decide) ?_
    refine g_icmp_eq (tgt := 126) X hv2 (inL rfl) dX6_readTerm_74 (by decide) (fun cd_2 => ?_) (fun cd_2 => ?_)
    · replace hf := ite_t cd_2 hf
      refine lv_iload_n hx hb dX6_readTerm_126 rfl (lv_at hl 0 rfl) ?_
      refine g_bipush X dX6_readTerm_127 (by decide) ?_
      refine g_icmp_ne (tgt := 156) X hv2 (inL rfl) dX6_readTerm_129 (by decide) (fun cd_3 => ?_) (fun cd_3 => ?_)
      · replace hf := ite_f cd_3 hf
        refine lv_aload_n hx hb dX6_readTerm_156 rfl (lv_at hl 1 rfl) ?_
        obtain ⟨hru_2, hf⟩ := gd_some hf
        refine g_getd X w_M_3 fg_X6_19 KD_29 FR_29_3 hru_2 dX6_readTerm_157 ?_
        refine g_getr X w_M_3 fg_X6_123 (KD_ru hru_2) (FR_ru_8 hru_2) dX6_readTerm_160 ?_
        refine lv_iload_n hx hb dX6_readTerm_163 rfl (lv_at hl 2 rfl) ?_
        refine lv_aload_n hx hb dX6_readTerm_164 rfl (lv_at hl 1 rfl) ?_
        refine g_geti X w_M_3 fg_X6_65 KD_29 FR_29_7 dX6_readTerm_165 ?_
        obtain ⟨hg_2, hf⟩ := gd_some hf
        obtain ⟨M_4, eM_4, hf⟩ := lt_some hf
        refine g_iast X w_M_3 (KD_ru_8 hru_2) hv1 hg_2 (w_M_3.2.2 _ _) dX6_readTerm_168 (fun H locs w_M_4 => ?_)
        rw [← eM_4] at w_M_4
        refine lv_aload_n hx hb dX6_readTerm_169 rfl (lv_at hl 1 rfl) ?_
        refine g_bipush X dX6_readTerm_170 (by decide) ?_
        obtain ⟨r_2, M_5, hc, hf⟩ := bnd_some hf
        refine g_cvi (As := [.int (i2 (-3))]) (rest := []) X w_M_4 (k_X6_readCode X.2.2.1 (-3) (inL rfl) w_M_4.2.2 hc) lk_X6_85 cl_6 KD_29 ⟨rfl, rfl⟩ ⟨nle rfl, nle rfl⟩ ⟨nle rfl, nle rfl⟩ hl.1 rfl (nle rfl) dX6_readTerm_172 (fun hr_2 H locs w_M_5 => ?_)
        obtain ⟨hz, hf⟩ := gd_some hf
        exact HR r_2 M_5 _ _ _ _ (Option.some.inj hf).symm hz w_M_5 dX6_readTerm_175
      · replace hf := ite_t cd_3 hf
        refine lv_aload_n hx hb dX6_readTerm_132 rfl (lv_at hl 1 rfl) ?_
        refine g_geti X w_M_3 fg_X6_42 KD_29 FR_29_5 dX6_readTerm_133 ?_
        refine g_bipush X dX6_readTerm_136 (by decide) ?_
        refine g_icmp_ne (tgt := 156) X (w_M_3.2.2 _ _) (inL rfl) dX6_readTerm_138 (by decide) (fun cd_4 => ?_) (fun cd_4 => ?_)
        · replace hf := ite_f cd_4 hf
          refine lv_aload_n hx hb dX6_readTerm_156 rfl (lv_at hl 1 rfl) ?_
          obtain ⟨hru_3, hf⟩ := gd_some hf
          refine g_getd X w_M_3 fg_X6_19 KD_29 FR_29_3 hru_3 dX6_readTerm_157 ?_
          refine g_getr X w_M_3 fg_X6_123 (KD_ru hru_3) (FR_ru_8 hru_3) dX6_readTerm_160 ?_
          refine lv_iload_n hx hb dX6_readTerm_163 rfl (lv_at hl 2 rfl) ?_
          refine lv_aload_n hx hb dX6_readTerm_164 rfl (lv_at hl 1 rfl) ?_
          refine g_geti X w_M_3 fg_X6_65 KD_29 FR_29_7 dX6_readTerm_165 ?_
          obtain ⟨hg_3, hf⟩ := gd_some hf
          obtain ⟨M_6, eM_6, hf⟩ := lt_some hf
          refine g_iast X w_M_3 (KD_ru_8 hru_3) hv1 hg_3 (w_M_3.2.2 _ _) dX6_readTerm_168 (fun H locs w_M_6 => ?_)
          rw [← eM_6] at w_M_6
          refine lv_aload_n hx hb dX6_readTerm_169 rfl (lv_at hl 1 rfl) ?_
          refine g_bipush X dX6_readTerm_170 (by decide) ?_
          obtain ⟨r_3, M_7, hc, hf⟩ := bnd_some hf
          refine g_cvi (As := [.int (i2 (-3))]) (rest := []) X w_M_6 (k_X6_readCode X.2.2.1 (-3) (inL rfl) w_M_6.2.2 hc) lk_X6_85 cl_6 KD_29 ⟨rfl, rfl⟩ ⟨nle rfl, nle rfl⟩ ⟨nle rfl, nle rfl⟩ hl.1 rfl (nle rfl) dX6_readTerm_172 (fun hr_3 H locs w_M_7 => ?_)
          obtain ⟨hz_2, hf⟩ := gd_some hf
          exact HR r_3 M_7 _ _ _ _ (Option.some.inj hf).symm hz_2 w_M_7 dX6_readTerm_175
        · replace hf := ite_t cd_4 hf
          refine lv_aload_n hx hb dX6_readTerm_141 rfl (lv_at hl 1 rfl) ?_
          refine g_geti X w_M_3 fg_X6_65 KD_29 FR_29_7 dX6_readTerm_142 ?_
          refine g_bipush X dX6_readTerm_145 (by decide) ?_
          refine g_icmp_le (tgt := 156) X (w_M_3.2.2 _ _) (inL rfl) dX6_readTerm_147 (by decide) (fun cd_5 => ?_) (fun cd_5 => ?_)
          · replace hf := ite_t cd_5 hf
            refine lv_aload_n hx hb dX6_readTerm_156 rfl (lv_at hl 1 rfl) ?_
            obtain ⟨hru_4, hf⟩ := gd_some hf
            refine g_getd X w_M_3 fg_X6_19 KD_29 FR_29_3 hru_4 dX6_readTerm_157 ?_
            refine g_getr X w_M_3 fg_X6_123 (KD_ru hru_4) (FR_ru_8 hru_4) dX6_readTerm_160 ?_
            refine lv_iload_n hx hb dX6_readTerm_163 rfl (lv_at hl 2 rfl) ?_
            refine lv_aload_n hx hb dX6_readTerm_164 rfl (lv_at hl 1 rfl) ?_
            refine g_geti X w_M_3 fg_X6_65 KD_29 FR_29_7 dX6_readTerm_165 ?_
            obtain ⟨hg_4, hf⟩ := gd_some hf
            obtain ⟨M_8, eM_8, hf⟩ := lt_some hf
            refine g_iast X w_M_3 (KD_ru_8 hru_4) hv1 hg_4 (w_M_3.2.2 _ _) dX6_readTerm_168 (fun H locs w_M_8 => ?_)
            rw [← eM_8] at w_M_8
            refine lv_aload_n hx hb dX6_readTerm_169 rfl (lv_at hl 1 rfl) ?_
            refine g_bipush X dX6_readTerm_170 (by decide) ?_
            obtain ⟨r_4, M_9, hc, hf⟩ := bnd_some hf
            refine g_cvi (As := [.int (i2 (-3))]) (rest := []) X w_M_8 (k_X6_readCode X.2.2.1 (-3) (inL rfl) w_M_8.2.2 hc) lk_X6_85 cl_6 KD_29 ⟨rfl, rfl⟩ ⟨nle rfl, nle rfl⟩ ⟨nle rfl, nle rfl⟩ hl.1 rfl (nle rfl) dX6_readTerm_172 (fun hr_4 H locs w_M_9 => ?_)
            obtain ⟨hz_3, hf⟩ := gd_some hf
            exact HR r_4 M_9 _ _ _ _ (Option.some.inj hf).symm hz_3 w_M_9 dX6_readTerm_175
          · replace hf := ite_f cd_5 hf
            refine lv_aload_n hx hb dX6_readTerm_150 rfl (lv_at hl 1 rfl) ?_
            refine g_iconst X dX6_readTerm_151 ?_
            obtain ⟨r_5, M_10, hc, hf⟩ := bnd_some hf
            refine g_cvi (As := [.int (i2 2)]) (rest := []) X w_M_3 (k_X6_refuse X.2.2.1 2 (inL rfl) w_M_3.2.2 hc) lk_X6_72 cl_6 KD_29 ⟨rfl, rfl⟩ ⟨nle rfl, nle rfl⟩ ⟨nle rfl, nle rfl⟩ hl.1 rfl (nle rfl) dX6_readTerm_152 (fun hr_5 H locs w_M_10 => ?_)
            obtain ⟨hz_4, hf⟩ := gd_some hf
            exact HR r_5 M_10 _ _ _ _ (Option.some.inj hf).symm hz_4 w_M_10 dX6_readTerm_155
    · replace hf := ite_f cd_2 hf
      refine lv_aload_n hx hb dX6_readTerm_77 rfl (lv_at hl 1 rfl) ?_
      obtain ⟨hru_5, hf⟩ := gd_some hf
      refine g_getd X w_M_3 fg_X6_19 KD_29 FR_29_3 hru_5 dX6_readTerm_78 ?_
      refine g_getr X w_M_3 fg_X6_120 (KD_ru hru_5) (FR_ru_7 hru_5) dX6_readTerm_81 ?_
      refine lv_iload_n hx hb dX6_readTerm_84 rfl (lv_at hl 2 rfl) ?_
      refine lv_aload_n hx hb dX6_readTerm_85 rfl (lv_at hl 1 rfl) ?_
      refine g_geti X w_M_3 fg_X6_42 KD_29 FR_29_5 dX6_readTerm_86 ?_
      obtain ⟨hg_5, hf⟩ := gd_some hf
      obtain ⟨M_11, eM_11, hf⟩ := lt_some hf
      refine g_iast X w_M_3 (KD_ru_7 hru_5) hv1 hg_5 (w_M_3.2.2 _ _) dX6_readTerm_89 (fun H locs w_M_11 => ?_)
      rw [← eM_11] at w_M_11
      refine lv_aload_n hx hb dX6_readTerm_90 rfl (lv_at hl 1 rfl) ?_
      refine lv_aload_n hx hb dX6_readTerm_91 rfl (lv_at hl 1 rfl) ?_
      refine g_geti X w_M_11 fg_X6_42 KD_29 FR_29_5 dX6_readTerm_92 ?_
      refine g_bipush X dX6_readTerm_95 (by decide) ?_
      refine g_icmp_eq (tgt := 109) X (w_M_11.2.2 _ _) (inL rfl) dX6_readTerm_97 (by decide) (fun cd_6 => ?_) (fun cd_6 => ?_)
      · replace hf := ite_t cd_6 hf
        refine lv_aload_n hx hb dX6_readTerm_109 rfl (lv_at hl 1 rfl) ?_
        refine g_geti X w_M_11 fg_X6_42 KD_29 FR_29_5 dX6_readTerm_110 ?_
        refine lv_goto (tgt := 118) hx hb dX6_readTerm_113 (by decide) ?_
        exact b_X6_readTerm_j118 X  HR v1 hv1 v2 hv2 (M_11 29 5) (w_M_11.2.2 _ _) M_11 hf (lv_sub hl [1, 2, 0] rfl) w_M_11
      · replace hf := ite_f cd_6 hf
        refine lv_aload_n hx hb dX6_readTerm_100 rfl (lv_at hl 1 rfl) ?_
        refine g_geti X w_M_11 fg_X6_42 KD_29 FR_29_5 dX6_readTerm_101 ?_
        refine g_bipush X dX6_readTerm_104 (by decide) ?_
        refine g_icmp_ne (tgt := 116) X (w_M_11.2.2 _ _) (inL rfl) dX6_readTerm_106 (by decide) (fun cd_7 => ?_) (fun cd_7 => ?_)
        · replace hf := ite_f cd_7 hf
          refine g_bipush X dX6_readTerm_116 (by decide) ?_
          exact b_X6_readTerm_j118 X  HR v1 hv1 v2 hv2 61 (inL rfl) M_11 hf (lv_sub hl [1, 2, 0] rfl) w_M_11
        · replace hf := ite_t cd_7 hf
          refine lv_aload_n hx hb dX6_readTerm_109 rfl (lv_at hl 1 rfl) ?_
          refine g_geti X w_M_11 fg_X6_42 KD_29 FR_29_5 dX6_readTerm_110 ?_
          refine lv_goto (tgt := 118) hx hb dX6_readTerm_113 (by decide) ?_
          exact b_X6_readTerm_j118 X  HR v1 hv1 v2 hv2 (M_11 29 5) (w_M_11.2.2 _ _) M_11 hf (lv_sub hl [1, 2, 0] rfl) w_M_11
  · replace hf := ite_t cd hf
    refine lv_aload_n hx hb dX6_readTerm_51 rfl (lv_at hl 1 rfl) ?_
    refine g_iconst X dX6_readTerm_52 ?_
    obtain ⟨r_6, M_12, hc, hf⟩ := bnd_some hf
    refine g_cvi (As := [.int (i2 1)]) (rest := []) X w (k_X6_refuse X.2.2.1 1 (inL rfl) w.2.2 hc) lk_X6_72 cl_6 KD_29 ⟨rfl, rfl⟩ ⟨nle rfl, nle rfl⟩ ⟨nle rfl, nle rfl⟩ hl.1 rfl (nle rfl) dX6_readTerm_53 (fun hr_6 H locs w_M_12 => ?_)
    obtain ⟨hz_5, hf⟩ := gd_some hf
    exact HR r_6 M_12 _ _ _ _ (Option.some.inj hf).symm hz_5 w_M_12 dX6_readTerm_56
set_option maxRecDepth 100000 in
set_option maxHeartbeats 4000000 in
theorem b_X6_readTerm_j22 (X : CX p s m args c cX6_readTerm 3 RX6 D aC ad sg A H0) {o : Int × Mem} (HR : ∀ (r : Int) (M1 : Mem) (H : Heap) (locs : List Loc) (pc : Nat) (ls : Array Slot), o = (r, M1) → isZ r → WS D aC ad A H0 M1 H locs → decode cX6_readTerm pc = .ok (.ireturn, 1) → W p l e rm_X6_readTerm s m args below meth c H locs 0 0 Q (F0 m pc ls [.int (i2 r)])) (v1 : Int) (hv1 : inR v1) (s0 : Int) (hs0 : inR s0) (s1 : Int) (hs1 : inR s1) (t2 : Int) (ht2 : isRu t2) (M : Mem) (hf : f_X6_readTerm_j22 v1 s0 s1 t2 M = some o) {H : Heap} {locs : List Loc} {ls : Array Slot} (hl : lv_has ls 3 [(0, .ref (ad 29)), (1, .int (i2 v1))]) (w : WS D aC ad A H0 M H locs) : W p l e rm_X6_readTerm s m args below meth c H locs 0 0 Q (F0 m 22 ls [.int (i2 s0), .int (i2 s1), .ref (ad (t2.toNat + 5))]) := by
  have hx := X.1.1
  have hb := X.1.2.1
  unfold f_X6_readTerm_j22 at hf
  obtain ⟨hg, hf⟩ := gd_some hf
  obtain ⟨hz, hf⟩ := gd_some hf
  obtain ⟨M_2, eM_2, hf⟩ := lt_some hf
  refine g_zast X w (KD_ru_5 ht2) hs1 hg hz dX6_readTerm_22 (fun H locs w_M_2 => ?_)
  rw [← eM_2] at w_M_2
  refine lv_aload_n hx hb dX6_readTerm_23 rfl (lv_at hl 0 rfl) ?_
  refine g_geti X w_M_2 fg_X6_42 KD_29 FR_29_5 dX6_readTerm_24 ?_
  refine g_bipush X dX6_readTerm_27 (by decide) ?_
  refine g_icmp_ne (tgt := 36) X (w_M_2.2.2 _ _) (inL rfl) dX6_readTerm_29 (by decide) (fun cd => ?_) (fun cd => ?_)
  · replace hf := ite_f cd hf
    refine lv_aload_n hx hb dX6_readTerm_36 rfl (lv_at hl 0 rfl) ?_
    refine g_geti X w_M_2 fg_X6_42 KD_29 FR_29_5 dX6_readTerm_37 ?_
    obtain ⟨v2, ev2, hf⟩ := lt_some hf
    have hv2 : inR v2 := inR_of ev2 (w_M_2.2.2 _ _)
    refine g_istn (v := v2) (lv' := [(2, .int (i2 v2)), (0, .ref (ad 29)), (1, .int (i2 v1))]) X ev2 dX6_readTerm_40 rfl hl (by decide) rfl (fun ls hl => ?_)
    refine lv_iload_n hx hb dX6_readTerm_41 rfl (lv_at hl 0 rfl) ?_
    refine g_iconst X dX6_readTerm_42 ?_
    refine g_bipush X dX6_readTerm_43 (by decide) ?_
    obtain ⟨r, hc, hf⟩ := obn_some hf
    refine g_csn (As := [.int (i2 v2), .int (i2 0), .int (i2 7)]) (rest := []) X w_M_2 (k_X10_within X.2.2.1 v2 hv2 0 (inL rfl) 7 (inL rfl) w_M_2.2.2 hc) lk_X6_68 ⟨rfl, rfl⟩ ⟨nle rfl, nle rfl⟩ ⟨nle rfl, nle rfl⟩ hl.1 rfl (nle rfl) dX6_readTerm_45 (fun hr H locs w_M_2 => ?_)
    refine g_if_ne (tgt := 57) X hr dX6_readTerm_48 (by decide) (fun cd_2 => ?_) (fun cd_2 => ?_)
    · replace hf := ite_f cd_2 hf
      refine lv_aload_n hx hb dX6_readTerm_57 rfl (lv_at hl 1 rfl) ?_
      obtain ⟨hru, hf⟩ := gd_some hf
      refine g_getd X w_M_2 fg_X6_19 KD_29 FR_29_3 hru dX6_readTerm_58 ?_
      refine g_getr X w_M_2 fg_X6_117 (KD_ru hru) (FR_ru_6 hru) dX6_readTerm_61 ?_
      refine lv_iload_n hx hb dX6_readTerm_64 rfl (lv_at hl 2 rfl) ?_
      refine lv_iload_n hx hb dX6_readTerm_65 rfl (lv_at hl 0 rfl) ?_
      obtain ⟨hg_2, hf⟩ := gd_some hf
      obtain ⟨M_3, eM_3, hf⟩ := lt_some hf
      refine g_iast X w_M_2 (KD_ru_6 hru) hv1 hg_2 hv2 dX6_readTerm_66 (fun H locs w_M_3 => ?_)
      rw [← eM_3] at w_M_3
      refine lv_aload_n hx hb dX6_readTerm_67 rfl (lv_at hl 1 rfl) ?_
      obtain ⟨M_4, hc, hf⟩ := obn_some hf
      refine g_cvv (As := []) (rest := []) X w_M_3 (k_X6_next X.2.2.1  w_M_3.2.2 hc) lk_X6_39 cl_6 KD_29 ⟨rfl, rfl⟩ ⟨nle rfl, nle rfl⟩ ⟨nle rfl, nle rfl⟩ hl.1 rfl (nle rfl) dX6_readTerm_68 (fun H locs w_M_4 => ?_)
      refine lv_iload_n hx hb dX6_readTerm_71 rfl (lv_at hl 0 rfl) ?_
      refine g_bipush X dX6_readTerm_72 (by decide) ?_
      refine g_icmp_eq (tgt := 126) X hv2 (inL rfl) dX6_readTerm_74 (by decide) (fun cd_3 => ?_) (fun cd_3 => ?_)
      · replace hf := ite_t cd_3 hf
        refine lv_iload_n hx hb dX6_readTerm_126 rfl (lv_at hl 0 rfl) ?_
        refine g_bipush X dX6_readTerm_127 (by decide) ?_
        refine g_icmp_ne (tgt := 156) X hv2 (inL rfl) dX6_readTerm_129 (by decide) (fun cd_4 => ?_) (fun cd_4 => ?_)
        · replace hf := ite_f cd_4 hf
          refine lv_aload_n hx hb dX6_readTerm_156 rfl (lv_at hl 1 rfl) ?_
          obtain ⟨hru_2, hf⟩ := gd_some hf
          refine g_getd X w_M_4 fg_X6_19 KD_29 FR_29_3 hru_2 dX6_readTerm_157 ?_
          refine g_getr X w_M_4 fg_X6_123 (KD_ru hru_2) (FR_ru_8 hru_2) dX6_readTerm_160 ?_
          refine lv_iload_n hx hb dX6_readTerm_163 rfl (lv_at hl 2 rfl) ?_
          refine lv_aload_n hx hb dX6_readTerm_164 rfl (lv_at hl 1 rfl) ?_
          refine g_geti X w_M_4 fg_X6_65 KD_29 FR_29_7 dX6_readTerm_165 ?_
          obtain ⟨hg_3, hf⟩ := gd_some hf
          obtain ⟨M_5, eM_5, hf⟩ := lt_some hf
          refine g_iast X w_M_4 (KD_ru_8 hru_2) hv1 hg_3 (w_M_4.2.2 _ _) dX6_readTerm_168 (fun H locs w_M_5 => ?_)
          rw [← eM_5] at w_M_5
          refine lv_aload_n hx hb dX6_readTerm_169 rfl (lv_at hl 1 rfl) ?_
          refine g_bipush X dX6_readTerm_170 (by decide) ?_
          obtain ⟨r_2, M_6, hc, hf⟩ := bnd_some hf
          refine g_cvi (As := [.int (i2 (-3))]) (rest := []) X w_M_5 (k_X6_readCode X.2.2.1 (-3) (inL rfl) w_M_5.2.2 hc) lk_X6_85 cl_6 KD_29 ⟨rfl, rfl⟩ ⟨nle rfl, nle rfl⟩ ⟨nle rfl, nle rfl⟩ hl.1 rfl (nle rfl) dX6_readTerm_172 (fun hr_2 H locs w_M_6 => ?_)
          obtain ⟨hz_2, hf⟩ := gd_some hf
          exact HR r_2 M_6 _ _ _ _ (Option.some.inj hf).symm hz_2 w_M_6 dX6_readTerm_175
        · replace hf := ite_t cd_4 hf
          refine lv_aload_n hx hb dX6_readTerm_132 rfl (lv_at hl 1 rfl) ?_
          refine g_geti X w_M_4 fg_X6_42 KD_29 FR_29_5 dX6_readTerm_133 ?_
          refine g_bipush X dX6_readTerm_136 (by decide) ?_
          refine g_icmp_ne (tgt := 156) X (w_M_4.2.2 _ _) (inL rfl) dX6_readTerm_138 (by decide) (fun cd_5 => ?_) (fun cd_5 => ?_)
          · replace hf := ite_f cd_5 hf
            refine lv_aload_n hx hb dX6_readTerm_156 rfl (lv_at hl 1 rfl) ?_
            obtain ⟨hru_3, hf⟩ := gd_some hf
            refine g_getd X w_M_4 fg_X6_19 KD_29 FR_29_3 hru_3 dX6_readTerm_157 ?_
            refine g_getr X w_M_4 fg_X6_123 (KD_ru hru_3) (FR_ru_8 hru_3) dX6_readTerm_160 ?_
            refine lv_iload_n hx hb dX6_readTerm_163 rfl (lv_at hl 2 rfl) ?_
            refine lv_aload_n hx hb dX6_readTerm_164 rfl (lv_at hl 1 rfl) ?_
            refine g_geti X w_M_4 fg_X6_65 KD_29 FR_29_7 dX6_readTerm_165 ?_
            obtain ⟨hg_4, hf⟩ := gd_some hf
            obtain ⟨M_7, eM_7, hf⟩ := lt_some hf
            refine g_iast X w_M_4 (KD_ru_8 hru_3) hv1 hg_4 (w_M_4.2.2 _ _) dX6_readTerm_168 (fun H locs w_M_7 => ?_)
            rw [← eM_7] at w_M_7
            refine lv_aload_n hx hb dX6_readTerm_169 rfl (lv_at hl 1 rfl) ?_
            refine g_bipush X dX6_readTerm_170 (by decide) ?_
            obtain ⟨r_3, M_8, hc, hf⟩ := bnd_some hf
            refine g_cvi (As := [.int (i2 (-3))]) (rest := []) X w_M_7 (k_X6_readCode X.2.2.1 (-3) (inL rfl) w_M_7.2.2 hc) lk_X6_85 cl_6 KD_29 ⟨rfl, rfl⟩ ⟨nle rfl, nle rfl⟩ ⟨nle rfl, nle rfl⟩ hl.1 rfl (nle rfl) dX6_readTerm_172 (fun hr_3 H locs w_M_8 => ?_)
            obtain ⟨hz_3, hf⟩ := gd_some hf
            exact HR r_3 M_8 _ _ _ _ (Option.some.inj hf).symm hz_3 w_M_8 dX6_readTerm_175
          · replace hf := ite_t cd_5 hf
            refine lv_aload_n hx hb dX6_readTerm_141 rfl (lv_at hl 1 rfl) ?_
            refine g_geti X w_M_4 fg_X6_65 KD_29 FR_29_7 dX6_readTerm_142 ?_
            refine g_bipush X dX6_readTerm_145 (by decide) ?_
            refine g_icmp_le (tgt := 156) X (w_M_4.2.2 _ _) (inL rfl) dX6_readTerm_147 (by decide) (fun cd_6 => ?_) (fun cd_6 => ?_)
            · replace hf := ite_t cd_6 hf
              refine lv_aload_n hx hb dX6_readTerm_156 rfl (lv_at hl 1 rfl) ?_
              obtain ⟨hru_4, hf⟩ := gd_some hf
              refine g_getd X w_M_4 fg_X6_19 KD_29 FR_29_3 hru_4 dX6_readTerm_157 ?_
              refine g_getr X w_M_4 fg_X6_123 (KD_ru hru_4) (FR_ru_8 hru_4) dX6_readTerm_160 ?_
              refine lv_iload_n hx hb dX6_readTerm_163 rfl (lv_at hl 2 rfl) ?_
              refine lv_aload_n hx hb dX6_readTerm_164 rfl (lv_at hl 1 rfl) ?_
              refine g_geti X w_M_4 fg_X6_65 KD_29 FR_29_7 dX6_readTerm_165 ?_
              obtain ⟨hg_5, hf⟩ := gd_some hf
              obtain ⟨M_9, eM_9, hf⟩ := lt_some hf
              refine g_iast X w_M_4 (KD_ru_8 hru_4) hv1 hg_5 (w_M_4.2.2 _ _) dX6_readTerm_168 (fun H locs w_M_9 => ?_)
              rw [← eM_9] at w_M_9
              refine lv_aload_n hx hb dX6_readTerm_169 rfl (lv_at hl 1 rfl) ?_
              refine g_bipush X dX6_readTerm_170 (by decide) ?_
              obtain ⟨r_4, M_10, hc, hf⟩ := bnd_some hf
              refine g_cvi (As := [.int (i2 (-3))]) (rest := []) X w_M_9 (k_X6_readCode X.2.2.1 (-3) (inL rfl) w_M_9.2.2 hc) lk_X6_85 cl_6 KD_29 ⟨rfl, rfl⟩ ⟨nle rfl, nle rfl⟩ ⟨nle rfl, nle rfl⟩ hl.1 rfl (nle rfl) dX6_readTerm_172 (fun hr_4 H locs w_M_10 => ?_)
              obtain ⟨hz_4, hf⟩ := gd_some hf
              exact HR r_4 M_10 _ _ _ _ (Option.some.inj hf).symm hz_4 w_M_10 dX6_readTerm_175
            · replace hf := ite_f cd_6 hf
              refine lv_aload_n hx hb dX6_readTerm_150 rfl (lv_at hl 1 rfl) ?_
              refine g_iconst X dX6_readTerm_151 ?_
              obtain ⟨r_5, M_11, hc, hf⟩ := bnd_some hf
              refine g_cvi (As := [.int (i2 2)]) (rest := []) X w_M_4 (k_X6_refuse X.2.2.1 2 (inL rfl) w_M_4.2.2 hc) lk_X6_72 cl_6 KD_29 ⟨rfl, rfl⟩ ⟨nle rfl, nle rfl⟩ ⟨nle rfl, nle rfl⟩ hl.1 rfl (nle rfl) dX6_readTerm_152 (fun hr_5 H locs w_M_11 => ?_)
              obtain ⟨hz_5, hf⟩ := gd_some hf
              exact HR r_5 M_11 _ _ _ _ (Option.some.inj hf).symm hz_5 w_M_11 dX6_readTerm_155
      · replace hf := ite_f cd_3 hf
        refine lv_aload_n hx hb dX6_readTerm_77 rfl (lv_at hl 1 rfl) ?_
        obtain ⟨hru_5, hf⟩ := gd_some hf
        refine g_getd X w_M_4 fg_X6_19 KD_29 FR_29_3 hru_5 dX6_readTerm_78 ?_
        refine g_getr X w_M_4 fg_X6_120 (KD_ru hru_5) (FR_ru_7 hru_5) dX6_readTerm_81 ?_
        refine lv_iload_n hx hb dX6_readTerm_84 rfl (lv_at hl 2 rfl) ?_
        refine lv_aload_n hx hb dX6_readTerm_85 rfl (lv_at hl 1 rfl) ?_
        refine g_geti X w_M_4 fg_X6_42 KD_29 FR_29_5 dX6_readTerm_86 ?_
        obtain ⟨hg_6, hf⟩ := gd_some hf
        obtain ⟨M_12, eM_12, hf⟩ := lt_some hf
        refine g_iast X w_M_4 (KD_ru_7 hru_5) hv1 hg_6 (w_M_4.2.2 _ _) dX6_readTerm_89 (fun H locs w_M_12 => ?_)
        rw [← eM_12] at w_M_12
        refine lv_aload_n hx hb dX6_readTerm_90 rfl (lv_at hl 1 rfl) ?_
        refine lv_aload_n hx hb dX6_readTerm_91 rfl (lv_at hl 1 rfl) ?_
        refine g_geti X w_M_12 fg_X6_42 KD_29 FR_29_5 dX6_readTerm_92 ?_
        refine g_bipush X dX6_readTerm_95 (by decide) ?_
        refine g_icmp_eq (tgt := 109) X (w_M_12.2.2 _ _) (inL rfl) dX6_readTerm_97 (by decide) (fun cd_7 => ?_) (fun cd_7 => ?_)
        · replace hf := ite_t cd_7 hf
          refine lv_aload_n hx hb dX6_readTerm_109 rfl (lv_at hl 1 rfl) ?_
          refine g_geti X w_M_12 fg_X6_42 KD_29 FR_29_5 dX6_readTerm_110 ?_
          refine lv_goto (tgt := 118) hx hb dX6_readTerm_113 (by decide) ?_
          exact b_X6_readTerm_j118 X  HR v1 hv1 v2 hv2 (M_12 29 5) (w_M_12.2.2 _ _) M_12 hf (lv_sub hl [1, 2, 0] rfl) w_M_12
        · replace hf := ite_f cd_7 hf
          refine lv_aload_n hx hb dX6_readTerm_100 rfl (lv_at hl 1 rfl) ?_
          refine g_geti X w_M_12 fg_X6_42 KD_29 FR_29_5 dX6_readTerm_101 ?_
          refine g_bipush X dX6_readTerm_104 (by decide) ?_
          refine g_icmp_ne (tgt := 116) X (w_M_12.2.2 _ _) (inL rfl) dX6_readTerm_106 (by decide) (fun cd_8 => ?_) (fun cd_8 => ?_)
          · replace hf := ite_f cd_8 hf
            refine g_bipush X dX6_readTerm_116 (by decide) ?_
            exact b_X6_readTerm_j118 X  HR v1 hv1 v2 hv2 61 (inL rfl) M_12 hf (lv_sub hl [1, 2, 0] rfl) w_M_12
          · replace hf := ite_t cd_8 hf
            refine lv_aload_n hx hb dX6_readTerm_109 rfl (lv_at hl 1 rfl) ?_
            refine g_geti X w_M_12 fg_X6_42 KD_29 FR_29_5 dX6_readTerm_110 ?_
            refine lv_goto (tgt := 118) hx hb dX6_readTerm_113 (by decide) ?_
            exact b_X6_readTerm_j118 X  HR v1 hv1 v2 hv2 (M_12 29 5) (w_M_12.2.2 _ _) M_12 hf (lv_sub hl [1, 2, 0] rfl) w_M_12
    · replace hf := ite_t cd_2 hf
      refine lv_aload_n hx hb dX6_readTerm_51 rfl (lv_at hl 1 rfl) ?_
      refine g_iconst X dX6_readTerm_52 ?_
      obtain ⟨r_6, M_13, hc, hf⟩ := bnd_some hf
      refine g_cvi (As := [.int (i2 1)]) (rest := []) X w_M_2 (k_X6_refuse X.2.2.1 1 (inL rfl) w_M_2.2.2 hc) lk_X6_72 cl_6 KD_29 ⟨rfl, rfl⟩ ⟨nle rfl, nle rfl⟩ ⟨nle rfl, nle rfl⟩ hl.1 rfl (nle rfl) dX6_readTerm_53 (fun hr_6 H locs w_M_13 => ?_)
      obtain ⟨hz_6, hf⟩ := gd_some hf
      exact HR r_6 M_13 _ _ _ _ (Option.some.inj hf).symm hz_6 w_M_13 dX6_readTerm_56
  · replace hf := ite_t cd hf
    refine lv_aload_n hx hb dX6_readTerm_32 rfl (lv_at hl 0 rfl) ?_
    obtain ⟨M_14, hc, hf⟩ := obn_some hf
    refine g_cvv (As := []) (rest := []) X w_M_2 (k_X6_next X.2.2.1  w_M_2.2.2 hc) lk_X6_39 cl_6 KD_29 ⟨rfl, rfl⟩ ⟨nle rfl, nle rfl⟩ ⟨nle rfl, nle rfl⟩ hl.1 rfl (nle rfl) dX6_readTerm_33 (fun H locs w_M_14 => ?_)
    exact b_X6_readTerm_j36 X  HR v1 hv1 M_14 hf hl w_M_14
set_option maxRecDepth 100000 in
set_option maxHeartbeats 4000000 in
theorem b_X6_readTerm_0 (X : CX p s m args c cX6_readTerm 3 RX6 D aC ad sg A H0) {o : Int × Mem} (HR : ∀ (r : Int) (M1 : Mem) (H : Heap) (locs : List Loc) (pc : Nat) (ls : Array Slot), o = (r, M1) → isZ r → WS D aC ad A H0 M1 H locs → decode cX6_readTerm pc = .ok (.ireturn, 1) → W p l e rm_X6_readTerm s m args below meth c H locs 0 0 Q (F0 m pc ls [.int (i2 r)])) (p1 : Int) (hp1 : inR p1) (M : Mem) (hf : f_X6_readTerm p1 M = some o) {H : Heap} {locs : List Loc} {ls : Array Slot} (hl : lv_has ls 3 [(0, .ref (ad 29)), (1, .int (i2 p1))]) (w : WS D aC ad A H0 M H locs) : W p l e rm_X6_readTerm s m args below meth c H locs 0 0 Q (F0 m 0 ls []) := by
  have hx := X.1.1
  have hb := X.1.2.1
  unfold f_X6_readTerm at hf
  refine lv_aload_n hx hb dX6_readTerm_0 rfl (lv_at hl 0 rfl) ?_
  obtain ⟨hru, hf⟩ := gd_some hf
  refine g_getd X w fg_X6_19 KD_29 FR_29_3 hru dX6_readTerm_1 ?_
  refine g_getr X w fg_X6_113 (KD_ru hru) (FR_ru_5 hru) dX6_readTerm_4 ?_
  refine lv_iload_n hx hb dX6_readTerm_7 rfl (lv_at hl 1 rfl) ?_
  refine lv_aload_n hx hb dX6_readTerm_8 rfl (lv_at hl 0 rfl) ?_
  refine g_geti X w fg_X6_42 KD_29 FR_29_5 dX6_readTerm_9 ?_
  refine g_bipush X dX6_readTerm_12 (by decide) ?_
  refine g_icmp_ne (tgt := 21) X (w.2.2 _ _) (inL rfl) dX6_readTerm_14 (by decide) (fun cd => ?_) (fun cd => ?_)
  · replace hf := ite_f cd hf
    refine g_iconst X dX6_readTerm_21 ?_
    exact b_X6_readTerm_j22 X  HR p1 hp1 0 (inL rfl) p1 hp1 (M 29 3) hru M hf hl w
  · replace hf := ite_t cd hf
    refine g_iconst X dX6_readTerm_17 ?_
    refine lv_goto (tgt := 22) hx hb dX6_readTerm_18 (by decide) ?_
    exact b_X6_readTerm_j22 X  HR p1 hp1 1 (inL rfl) p1 hp1 (M 29 3) hru M hf hl w
set_option maxRecDepth 100000 in
set_option maxHeartbeats 4000000 in
theorem k_X6_readTerm {l : Launch} {D : va_G} {aC : Nat → ClassId} {ad : Nat → Nat} {sg : SG} (hi : Inj ad) (p1 : Int) (hp1 : inR p1) {M : Mem} (hM : inM M) {r : Int} {M' : Mem} (hf : f_X6_readTerm p1 M = some (r, M')) : MetI l D aC ad sg yX6_readTerm cX6_readTerm 3 (some .boolean) rm_X6_readTerm 0 0 [.ref (ad 29), .int (i2 p1)] M r M' := by
  refine MetI.ofZ (by decide +kernel) (nle rfl) hi hM (fun p e s m args below meth c Q H0 ls X hl w hret => ?_)
  exact b_X6_readTerm_0 X  (fun r1 M1 H locs pc ls eo hP w dg => by cases eo; exact hret H locs pc ls hP w dg) p1 hp1 M hf hl w
set_option maxRecDepth 100000 in
set_option maxHeartbeats 4000000 in
theorem b_X6_readTerms_s2 (X : CX p s m args c cX6_readTerms 3 RX6 D aC ad sg A H0) (v1 : Int) (hv1 : inR v1) {o : (Int × Mem) ⊕ ((Int × Mem) ⊕ (Int × Mem))} (HC : ∀ (y2 : Int) (M1 : Mem) (H : Heap) (locs : List Loc) (ls : Array Slot), o = .inl (y2, M1) → inR y2 → lv_has ls 3 [(0, .ref (ad 29)), (1, .int (i2 v1)), (2, .int (i2 y2))] → WS D aC ad A H0 M1 H locs → W p l e rm_X6_readTerms s m args below meth c H locs 0 0 Q (F0 m 2 ls [])) (HE : ∀ (y2 : Int) (M1 : Mem) (H : Heap) (locs : List Loc) (ls : Array Slot), o = .inr (.inl (y2, M1)) → inR y2 → lv_has ls 3 [(0, .ref (ad 29)), (1, .int (i2 v1)), (2, .int (i2 y2))] → WS D aC ad A H0 M1 H locs → W p l e rm_X6_readTerms s m args below meth c H locs 0 0 Q (F0 m 93 ls [])) (HR : ∀ (r : Int) (M1 : Mem) (H : Heap) (locs : List Loc) (pc : Nat) (ls : Array Slot), o = .inr (.inr (r, M1)) → isZ r → WS D aC ad A H0 M1 H locs → decode cX6_readTerms pc = .ok (.ireturn, 1) → W p l e rm_X6_readTerms s m args below meth c H locs 0 0 Q (F0 m pc ls [.int (i2 r)])) (v2 : Int) (hv2 : inR v2) (M : Mem) (hf : f_X6_readTerms_s2 v1 v2 M = some o) {H : Heap} {locs : List Loc} {ls : Array Slot} (hl : lv_has ls 3 [(0, .ref (ad 29)), (1, .int (i2 v1)), (2, .int (i2 v2))]) (w : WS D aC ad A H0 M H locs) : W p l e rm_X6_readTerms s m args below meth c H locs 0 0 Q (F0 m 2 ls []) := by
  have hx := X.1.1
  have hb := X.1.2.1
  unfold f_X6_readTerms_s2 at hf
  refine lv_iload_n hx hb dX6_readTerms_2 rfl (lv_at hl 2 rfl) ?_
  refine g_iconst X dX6_readTerms_3 ?_
  refine g_icmp_gt (tgt := 93) X hv2 (inL rfl) dX6_readTerms_4 (by decide) (fun cd => ?_) (fun cd => ?_)
  · replace hf := ite_t cd hf
    exact HE v2 M _ _ _ (Option.some.inj hf).symm hv2 hl w
  · replace hf := ite_f cd hf
    refine lv_aload_n hx hb dX6_readTerms_7 rfl (lv_at hl 0 rfl) ?_
    refine g_geti X w fg_X6_42 KD_29 FR_29_5 dX6_readTerms_8 ?_
    refine g_bipush X dX6_readTerms_11 (by decide) ?_
    refine g_icmp_eq (tgt := 35) X (w.2.2 _ _) (inL rfl) dX6_readTerms_13 (by decide) (fun cd_2 => ?_) (fun cd_2 => ?_)
    · replace hf := ite_t cd_2 hf
      refine lv_iload_n hx hb dX6_readTerms_35 rfl (lv_at hl 2 rfl) ?_
      refine g_iconst X dX6_readTerms_36 ?_
      refine g_icmp_lt (tgt := 46) X hv2 (inL rfl) dX6_readTerms_37 (by decide) (fun cd_3 => ?_) (fun cd_3 => ?_)
      · replace hf := ite_t cd_3 hf
        refine lv_aload_n hx hb dX6_readTerms_46 rfl (lv_at hl 0 rfl) ?_
        refine lv_iload_n hx hb dX6_readTerms_47 rfl (lv_at hl 1 rfl) ?_
        refine g_iconst X dX6_readTerms_48 ?_
        refine g_imul X dX6_readTerms_49 ?_
        refine lv_iload_n hx hb dX6_readTerms_50 rfl (lv_at hl 2 rfl) ?_
        refine g_iadd X dX6_readTerms_51 ?_
        obtain ⟨r, M_2, hc, hf⟩ := bnd_some hf
        refine g_cvi (As := [.int (i2 (wrap ((wrap (v1 * 4)) + v2)))]) (rest := []) X w (k_X6_readTerm X.2.2.1 (wrap ((wrap (v1 * 4)) + v2)) (inR_wrap _) w.2.2 hc) lk_X6_107 cl_6 KD_29 ⟨rfl, rfl⟩ ⟨nle rfl, nle rfl⟩ ⟨nle rfl, nle rfl⟩ hl.1 rfl (nle rfl) dX6_readTerms_52 (fun hr H locs w_M_2 => ?_)
        refine g_if_ne (tgt := 60) X hr dX6_readTerms_55 (by decide) (fun cd_4 => ?_) (fun cd_4 => ?_)
        · replace hf := ite_f cd_4 hf
          refine lv_aload_n hx hb dX6_readTerms_60 rfl (lv_at hl 0 rfl) ?_
          obtain ⟨hru, hf⟩ := gd_some hf
          refine g_getd X w_M_2 fg_X6_19 KD_29 FR_29_3 hru dX6_readTerms_61 ?_
          refine g_getr X w_M_2 fg_X6_110 (KD_ru hru) (FR_ru_4 hru) dX6_readTerms_64 ?_
          refine lv_iload_n hx hb dX6_readTerms_67 rfl (lv_at hl 1 rfl) ?_
          refine lv_iload_n hx hb dX6_readTerms_68 rfl (lv_at hl 2 rfl) ?_
          refine g_iconst X dX6_readTerms_69 ?_
          refine g_iadd X dX6_readTerms_70 ?_
          obtain ⟨hg, hf⟩ := gd_some hf
          obtain ⟨M_3, eM_3, hf⟩ := lt_some hf
          refine g_iast X w_M_2 (KD_ru_4 hru) hv1 hg (inR_wrap _) dX6_readTerms_71 (fun H locs w_M_3 => ?_)
          rw [← eM_3] at w_M_3
          refine lv_aload_n hx hb dX6_readTerms_72 rfl (lv_at hl 0 rfl) ?_
          refine g_geti X w_M_3 fg_X6_42 KD_29 FR_29_5 dX6_readTerms_73 ?_
          refine g_bipush X dX6_readTerms_76 (by decide) ?_
          refine g_icmp_eq (tgt := 83) X (w_M_3.2.2 _ _) (inL rfl) dX6_readTerms_78 (by decide) (fun cd_5 => ?_) (fun cd_5 => ?_)
          · replace hf := ite_t cd_5 hf
            refine lv_aload_n hx hb dX6_readTerms_83 rfl (lv_at hl 0 rfl) ?_
            obtain ⟨M_4, hc, hf⟩ := obn_some hf
            refine g_cvv (As := []) (rest := []) X w_M_3 (k_X6_next X.2.2.1  w_M_3.2.2 hc) lk_X6_39 cl_6 KD_29 ⟨rfl, rfl⟩ ⟨nle rfl, nle rfl⟩ ⟨nle rfl, nle rfl⟩ hl.1 rfl (nle rfl) dX6_readTerms_84 (fun H locs w_M_4 => ?_)
            obtain ⟨v2_2, ev2_2, hf⟩ := lt_some hf
            have hv2_2 : inR v2_2 := inR_of ev2_2 (inR_wrap _)
            refine lv_iinc (v := i2 v2_2) (lv' := [(2, .int (i2 v2_2)), (0, .ref (ad 29)), (1, .int (i2 v1))]) hx hb dX6_readTerms_87 hl (k := 2) rfl (by rw [ev2_2]; exact i2_add _ _) (by decide) rfl (fun ls hl => ?_)
            refine lv_goto (tgt := 2) hx hb dX6_readTerms_90 (by decide) ?_
            exact HC v2_2 M_4 _ _ _ (Option.some.inj hf).symm hv2_2 (lv_sub hl [1, 2, 0] rfl) w_M_4
          · replace hf := ite_f cd_5 hf
            refine g_iconst X dX6_readTerms_81 ?_
            exact HR 1 M_3 _ _ _ _ (Option.some.inj hf).symm (Or.inr rfl) w_M_3 dX6_readTerms_82
        · replace hf := ite_t cd_4 hf
          refine g_iconst X dX6_readTerms_58 ?_
          exact HR 0 M_2 _ _ _ _ (Option.some.inj hf).symm (Or.inl rfl) w_M_2 dX6_readTerms_59
      · replace hf := ite_f cd_3 hf
        refine lv_aload_n hx hb dX6_readTerms_40 rfl (lv_at hl 0 rfl) ?_
        refine g_iconst X dX6_readTerms_41 ?_
        obtain ⟨r_2, M_5, hc, hf⟩ := bnd_some hf
        refine g_cvi (As := [.int (i2 3)]) (rest := []) X w (k_X6_refuse X.2.2.1 3 (inL rfl) w.2.2 hc) lk_X6_72 cl_6 KD_29 ⟨rfl, rfl⟩ ⟨nle rfl, nle rfl⟩ ⟨nle rfl, nle rfl⟩ hl.1 rfl (nle rfl) dX6_readTerms_42 (fun hr_2 H locs w_M_5 => ?_)
        obtain ⟨hz, hf⟩ := gd_some hf
        exact HR r_2 M_5 _ _ _ _ (Option.some.inj hf).symm hz w_M_5 dX6_readTerms_45
    · replace hf := ite_f cd_2 hf
      refine lv_aload_n hx hb dX6_readTerms_16 rfl (lv_at hl 0 rfl) ?_
      refine g_geti X w fg_X6_42 KD_29 FR_29_5 dX6_readTerms_17 ?_
      refine g_iconst X dX6_readTerms_20 ?_
      refine g_bipush X dX6_readTerms_21 (by decide) ?_
      obtain ⟨r_3, hc, hf⟩ := obn_some hf
      refine g_csn (As := [.int (i2 (M 29 5)), .int (i2 0), .int (i2 7)]) (rest := []) X w (k_X10_within X.2.2.1 (M 29 5) (w.2.2 _ _) 0 (inL rfl) 7 (inL rfl) w.2.2 hc) lk_X6_68 ⟨rfl, rfl⟩ ⟨nle rfl, nle rfl⟩ ⟨nle rfl, nle rfl⟩ hl.1 rfl (nle rfl) dX6_readTerms_23 (fun hr_3 H locs w => ?_)
      refine g_if_ne (tgt := 35) X hr_3 dX6_readTerms_26 (by decide) (fun cd_6 => ?_) (fun cd_6 => ?_)
      · replace hf := ite_f cd_6 hf
        refine lv_iload_n hx hb dX6_readTerms_35 rfl (lv_at hl 2 rfl) ?_
        refine g_iconst X dX6_readTerms_36 ?_
        refine g_icmp_lt (tgt := 46) X hv2 (inL rfl) dX6_readTerms_37 (by decide) (fun cd_7 => ?_) (fun cd_7 => ?_)
        · replace hf := ite_t cd_7 hf
          refine lv_aload_n hx hb dX6_readTerms_46 rfl (lv_at hl 0 rfl) ?_
          refine lv_iload_n hx hb dX6_readTerms_47 rfl (lv_at hl 1 rfl) ?_
          refine g_iconst X dX6_readTerms_48 ?_
          refine g_imul X dX6_readTerms_49 ?_
          refine lv_iload_n hx hb dX6_readTerms_50 rfl (lv_at hl 2 rfl) ?_
          refine g_iadd X dX6_readTerms_51 ?_
          obtain ⟨r_4, M_6, hc, hf⟩ := bnd_some hf
          refine g_cvi (As := [.int (i2 (wrap ((wrap (v1 * 4)) + v2)))]) (rest := []) X w (k_X6_readTerm X.2.2.1 (wrap ((wrap (v1 * 4)) + v2)) (inR_wrap _) w.2.2 hc) lk_X6_107 cl_6 KD_29 ⟨rfl, rfl⟩ ⟨nle rfl, nle rfl⟩ ⟨nle rfl, nle rfl⟩ hl.1 rfl (nle rfl) dX6_readTerms_52 (fun hr_4 H locs w_M_6 => ?_)
          refine g_if_ne (tgt := 60) X hr_4 dX6_readTerms_55 (by decide) (fun cd_8 => ?_) (fun cd_8 => ?_)
          · replace hf := ite_f cd_8 hf
            refine lv_aload_n hx hb dX6_readTerms_60 rfl (lv_at hl 0 rfl) ?_
            obtain ⟨hru_2, hf⟩ := gd_some hf
            refine g_getd X w_M_6 fg_X6_19 KD_29 FR_29_3 hru_2 dX6_readTerms_61 ?_
            refine g_getr X w_M_6 fg_X6_110 (KD_ru hru_2) (FR_ru_4 hru_2) dX6_readTerms_64 ?_
            refine lv_iload_n hx hb dX6_readTerms_67 rfl (lv_at hl 1 rfl) ?_
            refine lv_iload_n hx hb dX6_readTerms_68 rfl (lv_at hl 2 rfl) ?_
            refine g_iconst X dX6_readTerms_69 ?_
            refine g_iadd X dX6_readTerms_70 ?_
            obtain ⟨hg_2, hf⟩ := gd_some hf
            obtain ⟨M_7, eM_7, hf⟩ := lt_some hf
            refine g_iast X w_M_6 (KD_ru_4 hru_2) hv1 hg_2 (inR_wrap _) dX6_readTerms_71 (fun H locs w_M_7 => ?_)
            rw [← eM_7] at w_M_7
            refine lv_aload_n hx hb dX6_readTerms_72 rfl (lv_at hl 0 rfl) ?_
            refine g_geti X w_M_7 fg_X6_42 KD_29 FR_29_5 dX6_readTerms_73 ?_
            refine g_bipush X dX6_readTerms_76 (by decide) ?_
            refine g_icmp_eq (tgt := 83) X (w_M_7.2.2 _ _) (inL rfl) dX6_readTerms_78 (by decide) (fun cd_9 => ?_) (fun cd_9 => ?_)
            · replace hf := ite_t cd_9 hf
              refine lv_aload_n hx hb dX6_readTerms_83 rfl (lv_at hl 0 rfl) ?_
              obtain ⟨M_8, hc, hf⟩ := obn_some hf
              refine g_cvv (As := []) (rest := []) X w_M_7 (k_X6_next X.2.2.1  w_M_7.2.2 hc) lk_X6_39 cl_6 KD_29 ⟨rfl, rfl⟩ ⟨nle rfl, nle rfl⟩ ⟨nle rfl, nle rfl⟩ hl.1 rfl (nle rfl) dX6_readTerms_84 (fun H locs w_M_8 => ?_)
              obtain ⟨v2_3, ev2_3, hf⟩ := lt_some hf
              have hv2_3 : inR v2_3 := inR_of ev2_3 (inR_wrap _)
              refine lv_iinc (v := i2 v2_3) (lv' := [(2, .int (i2 v2_3)), (0, .ref (ad 29)), (1, .int (i2 v1))]) hx hb dX6_readTerms_87 hl (k := 2) rfl (by rw [ev2_3]; exact i2_add _ _) (by decide) rfl (fun ls hl => ?_)
              refine lv_goto (tgt := 2) hx hb dX6_readTerms_90 (by decide) ?_
              exact HC v2_3 M_8 _ _ _ (Option.some.inj hf).symm hv2_3 (lv_sub hl [1, 2, 0] rfl) w_M_8
            · replace hf := ite_f cd_9 hf
              refine g_iconst X dX6_readTerms_81 ?_
              exact HR 1 M_7 _ _ _ _ (Option.some.inj hf).symm (Or.inr rfl) w_M_7 dX6_readTerms_82
          · replace hf := ite_t cd_8 hf
            refine g_iconst X dX6_readTerms_58 ?_
            exact HR 0 M_6 _ _ _ _ (Option.some.inj hf).symm (Or.inl rfl) w_M_6 dX6_readTerms_59
        · replace hf := ite_f cd_7 hf
          refine lv_aload_n hx hb dX6_readTerms_40 rfl (lv_at hl 0 rfl) ?_
          refine g_iconst X dX6_readTerms_41 ?_
          obtain ⟨r_5, M_9, hc, hf⟩ := bnd_some hf
          refine g_cvi (As := [.int (i2 3)]) (rest := []) X w (k_X6_refuse X.2.2.1 3 (inL rfl) w.2.2 hc) lk_X6_72 cl_6 KD_29 ⟨rfl, rfl⟩ ⟨nle rfl, nle rfl⟩ ⟨nle rfl, nle rfl⟩ hl.1 rfl (nle rfl) dX6_readTerms_42 (fun hr_5 H locs w_M_9 => ?_)
          obtain ⟨hz_2, hf⟩ := gd_some hf
          exact HR r_5 M_9 _ _ _ _ (Option.some.inj hf).symm hz_2 w_M_9 dX6_readTerms_45
      · replace hf := ite_t cd_6 hf
        refine lv_aload_n hx hb dX6_readTerms_29 rfl (lv_at hl 0 rfl) ?_
        refine g_iconst X dX6_readTerms_30 ?_
        obtain ⟨r_6, M_10, hc, hf⟩ := bnd_some hf
        refine g_cvi (As := [.int (i2 1)]) (rest := []) X w (k_X6_refuse X.2.2.1 1 (inL rfl) w.2.2 hc) lk_X6_72 cl_6 KD_29 ⟨rfl, rfl⟩ ⟨nle rfl, nle rfl⟩ ⟨nle rfl, nle rfl⟩ hl.1 rfl (nle rfl) dX6_readTerms_31 (fun hr_6 H locs w_M_10 => ?_)
        obtain ⟨hz_3, hf⟩ := gd_some hf
        exact HR r_6 M_10 _ _ _ _ (Option.some.inj hf).symm hz_3 w_M_10 dX6_readTerms_34
set_option maxRecDepth 100000 in
set_option maxHeartbeats 4000000 in
theorem l_X6_readTerms_2 (X : CX p s m args c cX6_readTerms 3 RX6 D aC ad sg A H0) (v1 : Int) (hv1 : inR v1) {out : (Int × Mem) ⊕ (Int × Mem)} (HE : ∀ (y2 : Int) (M1 : Mem) (H : Heap) (locs : List Loc) (ls : Array Slot), out = .inl (y2, M1) → inR y2 → lv_has ls 3 [(0, .ref (ad 29)), (1, .int (i2 v1)), (2, .int (i2 y2))] → WS D aC ad A H0 M1 H locs → W p l e rm_X6_readTerms s m args below meth c H locs 0 0 Q (F0 m 93 ls [])) (HR : ∀ (r : Int) (M1 : Mem) (H : Heap) (locs : List Loc) (pc : Nat) (ls : Array Slot), out = .inr (r, M1) → isZ r → WS D aC ad A H0 M1 H locs → decode cX6_readTerms pc = .ok (.ireturn, 1) → W p l e rm_X6_readTerms s m args below meth c H locs 0 0 Q (F0 m pc ls [.int (i2 r)])) : ∀ (n : Nat) (v2 : Int) (M : Mem), whl (fun s => f_X6_readTerms_s2 v1 s.1 s.2) n (v2, M) = some out → inR v2 → ∀ {H : Heap} {locs : List Loc} {ls : Array Slot}, lv_has ls 3 [(0, .ref (ad 29)), (1, .int (i2 v1)), (2, .int (i2 v2))] → WS D aC ad A H0 M H locs → W p l e rm_X6_readTerms s m args below meth c H locs 0 0 Q (F0 m 2 ls []) := by
  intro n
  induction n with
  | zero => intro v2 M hf; exact (whl_zero hf).elim
  | succ n ih =>
    intro v2 M hf hv2 H locs ls hl w
    obtain ⟨o, hf, hk1, hk2⟩ := whl_step hf
    exact b_X6_readTerms_s2 X v1 hv1 (fun y2 M1 H locs ls eo hy2 hl w => ih y2 M1 (hk1 _ eo) hy2 hl w) (fun y2 M1 H locs ls eo hy2 hl w => HE y2 M1 H locs ls (hk2 _ eo).symm hy2 hl w) (fun r M1 H locs pc ls eo hP w dg => HR r M1 H locs pc ls (hk2 _ eo).symm hP w dg) v2 hv2 M hf hl w
set_option maxRecDepth 100000 in
set_option maxHeartbeats 4000000 in
theorem b_X6_readTerms_j93 (X : CX p s m args c cX6_readTerms 3 RX6 D aC ad sg A H0) {o : Int × Mem} (HR : ∀ (r : Int) (M1 : Mem) (H : Heap) (locs : List Loc) (pc : Nat) (ls : Array Slot), o = (r, M1) → isZ r → WS D aC ad A H0 M1 H locs → decode cX6_readTerms pc = .ok (.ireturn, 1) → W p l e rm_X6_readTerms s m args below meth c H locs 0 0 Q (F0 m pc ls [.int (i2 r)])) (M : Mem) (hf : f_X6_readTerms_j93 M = some o) {H : Heap} {locs : List Loc} {ls : Array Slot} (hl : lv_has ls 3 []) (w : WS D aC ad A H0 M H locs) : W p l e rm_X6_readTerms s m args below meth c H locs 0 0 Q (F0 m 93 ls []) := by
  have hx := X.1.1
  have hb := X.1.2.1
  unfold f_X6_readTerms_j93 at hf
  refine g_iconst X dX6_readTerms_93 ?_
  exact HR 0 M _ _ _ _ (Option.some.inj hf).symm (Or.inl rfl) w dX6_readTerms_94
set_option maxRecDepth 100000 in
set_option maxHeartbeats 4000000 in
theorem b_X6_readTerms_0 (X : CX p s m args c cX6_readTerms 3 RX6 D aC ad sg A H0) {o : Int × Mem} (HR : ∀ (r : Int) (M1 : Mem) (H : Heap) (locs : List Loc) (pc : Nat) (ls : Array Slot), o = (r, M1) → isZ r → WS D aC ad A H0 M1 H locs → decode cX6_readTerms pc = .ok (.ireturn, 1) → W p l e rm_X6_readTerms s m args below meth c H locs 0 0 Q (F0 m pc ls [.int (i2 r)])) (p1 : Int) (hp1 : inR p1) (M : Mem) (hf : f_X6_readTerms p1 M = some o) {H : Heap} {locs : List Loc} {ls : Array Slot} (hl : lv_has ls 3 [(0, .ref (ad 29)), (1, .int (i2 p1))]) (w : WS D aC ad A H0 M H locs) : W p l e rm_X6_readTerms s m args below meth c H locs 0 0 Q (F0 m 0 ls []) := by
  have hx := X.1.1
  have hb := X.1.2.1
  unfold f_X6_readTerms at hf
  refine g_iconst X dX6_readTerms_0 ?_
  refine g_istn (v := 0) (lv' := [(2, .int (i2 0)), (0, .ref (ad 29)), (1, .int (i2 p1))]) X rfl dX6_readTerms_1 rfl hl (by decide) rfl (fun ls hl => ?_)
  obtain ⟨q, hq, h1, h2⟩ := lpr_some hf
  exact l_X6_readTerms_2 X p1 hp1 (out := q) (fun y2 M1 H locs ls eq hy2 hl w => b_X6_readTerms_j93 X  HR M1 (h1 _ eq) (lv_sub hl [] rfl) w) (fun r M1 H locs pc ls eq hP w dg => HR r M1 H locs pc ls (Option.some.inj (h2 _ eq)).symm hP w dg) FU 0 M hq (inL rfl) (lv_sub hl [1, 2, 0] rfl) w
set_option maxRecDepth 100000 in
set_option maxHeartbeats 4000000 in
theorem k_X6_readTerms {l : Launch} {D : va_G} {aC : Nat → ClassId} {ad : Nat → Nat} {sg : SG} (hi : Inj ad) (p1 : Int) (hp1 : inR p1) {M : Mem} (hM : inM M) {r : Int} {M' : Mem} (hf : f_X6_readTerms p1 M = some (r, M')) : MetI l D aC ad sg yX6_readTerms cX6_readTerms 3 (some .boolean) rm_X6_readTerms 0 0 [.ref (ad 29), .int (i2 p1)] M r M' := by
  refine MetI.ofZ (by decide +kernel) (nle rfl) hi hM (fun p e s m args below meth c Q H0 ls X hl w hret => ?_)
  exact b_X6_readTerms_0 X  (fun r1 M1 H locs pc ls eo hP w dg => by cases eo; exact hret H locs pc ls hP w dg) p1 hp1 M hf hl w
set_option maxRecDepth 100000 in
set_option maxHeartbeats 4000000 in
theorem b_X6_readNumber_0 (X : CX p s m args c cX6_readNumber 2 RX6 D aC ad sg A H0) {o : Int × Mem} (HR : ∀ (r : Int) (M1 : Mem) (H : Heap) (locs : List Loc) (pc : Nat) (ls : Array Slot), o = (r, M1) → isZ r → WS D aC ad A H0 M1 H locs → decode cX6_readNumber pc = .ok (.ireturn, 1) → W p l e rm_X6_readNumber s m args below meth c H locs 0 0 Q (F0 m pc ls [.int (i2 r)])) (p1 : Int) (hp1 : inR p1) (M : Mem) (hf : f_X6_readNumber p1 M = some o) {H : Heap} {locs : List Loc} {ls : Array Slot} (hl : lv_has ls 2 [(0, .ref (ad 29)), (1, .int (i2 p1))]) (w : WS D aC ad A H0 M H locs) : W p l e rm_X6_readNumber s m args below meth c H locs 0 0 Q (F0 m 0 ls []) := by
  have hx := X.1.1
  have hb := X.1.2.1
  unfold f_X6_readNumber at hf
  refine lv_aload_n hx hb dX6_readNumber_0 rfl (lv_at hl 0 rfl) ?_
  obtain ⟨hru, hf⟩ := gd_some hf
  refine g_getd X w fg_X6_19 KD_29 FR_29_3 hru dX6_readNumber_1 ?_
  refine g_getr X w fg_X6_103 (KD_ru hru) (FR_ru_2 hru) dX6_readNumber_4 ?_
  refine lv_iload_n hx hb dX6_readNumber_7 rfl (lv_at hl 1 rfl) ?_
  refine lv_aload_n hx hb dX6_readNumber_8 rfl (lv_at hl 0 rfl) ?_
  refine g_geti X w fg_X6_65 KD_29 FR_29_7 dX6_readNumber_9 ?_
  obtain ⟨hg, hf⟩ := gd_some hf
  obtain ⟨M_2, eM_2, hf⟩ := lt_some hf
  refine g_iast X w (KD_ru_2 hru) hp1 hg (w.2.2 _ _) dX6_readNumber_12 (fun H locs w_M_2 => ?_)
  rw [← eM_2] at w_M_2
  refine lv_aload_n hx hb dX6_readNumber_13 rfl (lv_at hl 0 rfl) ?_
  refine g_bipush X dX6_readNumber_14 (by decide) ?_
  obtain ⟨r, M_3, hc, hf⟩ := bnd_some hf
  refine g_cvi (As := [.int (i2 (-3))]) (rest := []) X w_M_2 (k_X6_readCode X.2.2.1 (-3) (inL rfl) w_M_2.2.2 hc) lk_X6_85 cl_6 KD_29 ⟨rfl, rfl⟩ ⟨nle rfl, nle rfl⟩ ⟨nle rfl, nle rfl⟩ hl.1 rfl (nle rfl) dX6_readNumber_16 (fun hr H locs w_M_3 => ?_)
  obtain ⟨hz, hf⟩ := gd_some hf
  exact HR r M_3 _ _ _ _ (Option.some.inj hf).symm hz w_M_3 dX6_readNumber_19
set_option maxRecDepth 100000 in
set_option maxHeartbeats 4000000 in
theorem k_X6_readNumber {l : Launch} {D : va_G} {aC : Nat → ClassId} {ad : Nat → Nat} {sg : SG} (hi : Inj ad) (p1 : Int) (hp1 : inR p1) {M : Mem} (hM : inM M) {r : Int} {M' : Mem} (hf : f_X6_readNumber p1 M = some (r, M')) : MetI l D aC ad sg yX6_readNumber cX6_readNumber 2 (some .boolean) rm_X6_readNumber 0 0 [.ref (ad 29), .int (i2 p1)] M r M' := by
  refine MetI.ofZ (by decide +kernel) (nle rfl) hi hM (fun p e s m args below meth c Q H0 ls X hl w hret => ?_)
  exact b_X6_readNumber_0 X  (fun r1 M1 H locs pc ls eo hP w dg => by cases eo; exact hret H locs pc ls hP w dg) p1 hp1 M hf hl w
set_option maxRecDepth 100000 in
set_option maxHeartbeats 4000000 in
theorem b_X6_readWeight_0 (X : CX p s m args c cX6_readWeight 2 RX6 D aC ad sg A H0) {o : Int × Mem} (HR : ∀ (r : Int) (M1 : Mem) (H : Heap) (locs : List Loc) (pc : Nat) (ls : Array Slot), o = (r, M1) → isZ r → WS D aC ad A H0 M1 H locs → decode cX6_readWeight pc = .ok (.ireturn, 1) → W p l e rm_X6_readWeight s m args below meth c H locs 0 0 Q (F0 m pc ls [.int (i2 r)])) (p1 : Int) (hp1 : inR p1) (M : Mem) (hf : f_X6_readWeight p1 M = some o) {H : Heap} {locs : List Loc} {ls : Array Slot} (hl : lv_has ls 2 [(0, .ref (ad 29)), (1, .int (i2 p1))]) (w : WS D aC ad A H0 M H locs) : W p l e rm_X6_readWeight s m args below meth c H locs 0 0 Q (F0 m 0 ls []) := by
  have hx := X.1.1
  have hb := X.1.2.1
  unfold f_X6_readWeight at hf
  refine lv_aload_n hx hb dX6_readWeight_0 rfl (lv_at hl 0 rfl) ?_
  refine g_bipush X dX6_readWeight_1 (by decide) ?_
  obtain ⟨r, M_2, hc, hf⟩ := bnd_some hf
  refine g_cvi (As := [.int (i2 58)]) (rest := []) X w (k_X6_readCode X.2.2.1 58 (inL rfl) w.2.2 hc) lk_X6_85 cl_6 KD_29 ⟨rfl, rfl⟩ ⟨nle rfl, nle rfl⟩ ⟨nle rfl, nle rfl⟩ hl.1 rfl (nle rfl) dX6_readWeight_3 (fun hr H locs w_M_2 => ?_)
  refine g_if_eq (tgt := 21) X hr dX6_readWeight_6 (by decide) (fun cd => ?_) (fun cd => ?_)
  · replace hf := ite_t cd hf
    refine g_iconst X dX6_readWeight_21 ?_
    exact HR 0 M_2 _ _ _ _ (Option.some.inj hf).symm (Or.inl rfl) w_M_2 dX6_readWeight_22
  · replace hf := ite_f cd hf
    refine lv_aload_n hx hb dX6_readWeight_9 rfl (lv_at hl 0 rfl) ?_
    refine lv_iload_n hx hb dX6_readWeight_10 rfl (lv_at hl 1 rfl) ?_
    obtain ⟨r_2, M_3, hc, hf⟩ := bnd_some hf
    refine g_cvi (As := [.int (i2 p1)]) (rest := []) X w_M_2 (k_X6_readNumber X.2.2.1 p1 hp1 w_M_2.2.2 hc) lk_X6_97 cl_6 KD_29 ⟨rfl, rfl⟩ ⟨nle rfl, nle rfl⟩ ⟨nle rfl, nle rfl⟩ hl.1 rfl (nle rfl) dX6_readWeight_11 (fun hr_2 H locs w_M_3 => ?_)
    refine g_if_eq (tgt := 21) X hr_2 dX6_readWeight_14 (by decide) (fun cd_2 => ?_) (fun cd_2 => ?_)
    · replace hf := ite_t cd_2 hf
      refine g_iconst X dX6_readWeight_21 ?_
      exact HR 0 M_3 _ _ _ _ (Option.some.inj hf).symm (Or.inl rfl) w_M_3 dX6_readWeight_22
    · replace hf := ite_f cd_2 hf
      refine g_iconst X dX6_readWeight_17 ?_
      refine lv_goto (tgt := 22) hx hb dX6_readWeight_18 (by decide) ?_
      exact HR 1 M_3 _ _ _ _ (Option.some.inj hf).symm (Or.inr rfl) w_M_3 dX6_readWeight_22
set_option maxRecDepth 100000 in
set_option maxHeartbeats 4000000 in
theorem k_X6_readWeight {l : Launch} {D : va_G} {aC : Nat → ClassId} {ad : Nat → Nat} {sg : SG} (hi : Inj ad) (p1 : Int) (hp1 : inR p1) {M : Mem} (hM : inM M) {r : Int} {M' : Mem} (hf : f_X6_readWeight p1 M = some (r, M')) : MetI l D aC ad sg yX6_readWeight cX6_readWeight 2 (some .boolean) rm_X6_readWeight 0 0 [.ref (ad 29), .int (i2 p1)] M r M' := by
  refine MetI.ofZ (by decide +kernel) (nle rfl) hi hM (fun p e s m args below meth c Q H0 ls X hl w hret => ?_)
  exact b_X6_readWeight_0 X  (fun r1 M1 H locs pc ls eo hP w dg => by cases eo; exact hret H locs pc ls hP w dg) p1 hp1 M hf hl w
set_option maxRecDepth 100000 in
set_option maxHeartbeats 4000000 in
theorem b_X6_readTrait_0 (X : CX p s m args c cX6_readTrait 2 RX6 D aC ad sg A H0) {o : Int × Mem} (HR : ∀ (r : Int) (M1 : Mem) (H : Heap) (locs : List Loc) (pc : Nat) (ls : Array Slot), o = (r, M1) → isZ r → WS D aC ad A H0 M1 H locs → decode cX6_readTrait pc = .ok (.ireturn, 1) → W p l e rm_X6_readTrait s m args below meth c H locs 0 0 Q (F0 m pc ls [.int (i2 r)])) (p1 : Int) (hp1 : inR p1) (M : Mem) (hf : f_X6_readTrait p1 M = some o) {H : Heap} {locs : List Loc} {ls : Array Slot} (hl : lv_has ls 2 [(0, .ref (ad 29)), (1, .int (i2 p1))]) (w : WS D aC ad A H0 M H locs) : W p l e rm_X6_readTrait s m args below meth c H locs 0 0 Q (F0 m 0 ls []) := by
  have hx := X.1.1
  have hb := X.1.2.1
  unfold f_X6_readTrait at hf
  refine lv_aload_n hx hb dX6_readTrait_0 rfl (lv_at hl 0 rfl) ?_
  obtain ⟨hru, hf⟩ := gd_some hf
  refine g_getd X w fg_X6_19 KD_29 FR_29_3 hru dX6_readTrait_1 ?_
  refine g_getr X w fg_X6_104 (KD_ru hru) (FR_ru_3 hru) dX6_readTrait_4 ?_
  refine lv_iload_n hx hb dX6_readTrait_7 rfl (lv_at hl 1 rfl) ?_
  refine lv_aload_n hx hb dX6_readTrait_8 rfl (lv_at hl 0 rfl) ?_
  refine g_geti X w fg_X6_42 KD_29 FR_29_5 dX6_readTrait_9 ?_
  obtain ⟨hg, hf⟩ := gd_some hf
  obtain ⟨M_2, eM_2, hf⟩ := lt_some hf
  refine g_iast X w (KD_ru_3 hru) hp1 hg (w.2.2 _ _) dX6_readTrait_12 (fun H locs w_M_2 => ?_)
  rw [← eM_2] at w_M_2
  refine lv_aload_n hx hb dX6_readTrait_13 rfl (lv_at hl 0 rfl) ?_
  refine lv_aload_n hx hb dX6_readTrait_14 rfl (lv_at hl 0 rfl) ?_
  refine g_geti X w_M_2 fg_X6_42 KD_29 FR_29_5 dX6_readTrait_15 ?_
  refine g_iconst X dX6_readTrait_18 ?_
  refine g_bipush X dX6_readTrait_19 (by decide) ?_
  obtain ⟨r, hc, hf⟩ := obn_some hf
  refine g_csn (As := [.int (i2 (M_2 29 5)), .int (i2 0), .int (i2 6)]) (rest := [.ref (ad 29)]) X w_M_2 (k_X10_within X.2.2.1 (M_2 29 5) (w_M_2.2.2 _ _) 0 (inL rfl) 6 (inL rfl) w_M_2.2.2 hc) lk_X6_68 ⟨rfl, rfl⟩ ⟨nle rfl, nle rfl⟩ ⟨nle rfl, nle rfl⟩ hl.1 rfl (nle rfl) dX6_readTrait_21 (fun hr H locs w_M_2 => ?_)
  refine g_if_eq (tgt := 34) X hr dX6_readTrait_24 (by decide) (fun cd => ?_) (fun cd => ?_)
  · replace hf := ite_t cd hf
    refine g_iconst X dX6_readTrait_34 ?_
    obtain ⟨r_2, M_3, hc, hf⟩ := bnd_some hf
    refine g_cvi (As := [.int (i2 0)]) (rest := []) X w_M_2 (k_X6_readCode X.2.2.1 0 (inL rfl) w_M_2.2.2 hc) lk_X6_85 cl_6 KD_29 ⟨rfl, rfl⟩ ⟨nle rfl, nle rfl⟩ ⟨nle rfl, nle rfl⟩ hl.1 rfl (nle rfl) dX6_readTrait_35 (fun hr_2 H locs w_M_3 => ?_)
    obtain ⟨hz, hf⟩ := gd_some hf
    exact HR r_2 M_3 _ _ _ _ (Option.some.inj hf).symm hz w_M_3 dX6_readTrait_38
  · replace hf := ite_f cd hf
    refine lv_aload_n hx hb dX6_readTrait_27 rfl (lv_at hl 0 rfl) ?_
    refine g_geti X w_M_2 fg_X6_42 KD_29 FR_29_5 dX6_readTrait_28 ?_
    refine lv_goto (tgt := 35) hx hb dX6_readTrait_31 (by decide) ?_
    obtain ⟨r_3, M_4, hc, hf⟩ := bnd_some hf
    refine g_cvi (As := [.int (i2 (M_2 29 5))]) (rest := []) X w_M_2 (k_X6_readCode X.2.2.1 (M_2 29 5) (w_M_2.2.2 _ _) w_M_2.2.2 hc) lk_X6_85 cl_6 KD_29 ⟨rfl, rfl⟩ ⟨nle rfl, nle rfl⟩ ⟨nle rfl, nle rfl⟩ hl.1 rfl (nle rfl) dX6_readTrait_35 (fun hr_3 H locs w_M_4 => ?_)
    obtain ⟨hz_2, hf⟩ := gd_some hf
    exact HR r_3 M_4 _ _ _ _ (Option.some.inj hf).symm hz_2 w_M_4 dX6_readTrait_38
set_option maxRecDepth 100000 in
set_option maxHeartbeats 4000000 in
theorem k_X6_readTrait {l : Launch} {D : va_G} {aC : Nat → ClassId} {ad : Nat → Nat} {sg : SG} (hi : Inj ad) (p1 : Int) (hp1 : inR p1) {M : Mem} (hM : inM M) {r : Int} {M' : Mem} (hf : f_X6_readTrait p1 M = some (r, M')) : MetI l D aC ad sg yX6_readTrait cX6_readTrait 2 (some .boolean) rm_X6_readTrait 0 0 [.ref (ad 29), .int (i2 p1)] M r M' := by
  refine MetI.ofZ (by decide +kernel) (nle rfl) hi hM (fun p e s m args below meth c Q H0 ls X hl w hret => ?_)
  exact b_X6_readTrait_0 X  (fun r1 M1 H locs pc ls eo hP w dg => by cases eo; exact hret H locs pc ls hP w dg) p1 hp1 M hf hl w
set_option maxRecDepth 100000 in
set_option maxHeartbeats 4000000 in
theorem b_X6_readHow_0 (X : CX p s m args c cX6_readHow 2 RX6 D aC ad sg A H0) {o : Int × Mem} (HR : ∀ (r : Int) (M1 : Mem) (H : Heap) (locs : List Loc) (pc : Nat) (ls : Array Slot), o = (r, M1) → isZ r → WS D aC ad A H0 M1 H locs → decode cX6_readHow pc = .ok (.ireturn, 1) → W p l e rm_X6_readHow s m args below meth c H locs 0 0 Q (F0 m pc ls [.int (i2 r)])) (p1 : Int) (hp1 : inR p1) (M : Mem) (hf : f_X6_readHow p1 M = some o) {H : Heap} {locs : List Loc} {ls : Array Slot} (hl : lv_has ls 2 [(0, .ref (ad 29)), (1, .int (i2 p1))]) (w : WS D aC ad A H0 M H locs) : W p l e rm_X6_readHow s m args below meth c H locs 0 0 Q (F0 m 0 ls []) := by
  have hx := X.1.1
  have hb := X.1.2.1
  unfold f_X6_readHow at hf
  refine lv_aload_n hx hb dX6_readHow_0 rfl (lv_at hl 0 rfl) ?_
  obtain ⟨hru, hf⟩ := gd_some hf
  refine g_getd X w fg_X6_19 KD_29 FR_29_3 hru dX6_readHow_1 ?_
  refine g_getr X w fg_X6_104 (KD_ru hru) (FR_ru_3 hru) dX6_readHow_4 ?_
  refine lv_iload_n hx hb dX6_readHow_7 rfl (lv_at hl 1 rfl) ?_
  refine lv_aload_n hx hb dX6_readHow_8 rfl (lv_at hl 0 rfl) ?_
  refine g_geti X w fg_X6_42 KD_29 FR_29_5 dX6_readHow_9 ?_
  obtain ⟨hg, hf⟩ := gd_some hf
  obtain ⟨M_2, eM_2, hf⟩ := lt_some hf
  refine g_iast X w (KD_ru_3 hru) hp1 hg (w.2.2 _ _) dX6_readHow_12 (fun H locs w_M_2 => ?_)
  rw [← eM_2] at w_M_2
  refine lv_aload_n hx hb dX6_readHow_13 rfl (lv_at hl 0 rfl) ?_
  refine lv_aload_n hx hb dX6_readHow_14 rfl (lv_at hl 0 rfl) ?_
  refine g_geti X w_M_2 fg_X6_42 KD_29 FR_29_5 dX6_readHow_15 ?_
  refine g_bipush X dX6_readHow_18 (by decide) ?_
  refine g_icmp_eq (tgt := 32) X (w_M_2.2.2 _ _) (inL rfl) dX6_readHow_20 (by decide) (fun cd => ?_) (fun cd => ?_)
  · replace hf := ite_t cd hf
    refine lv_aload_n hx hb dX6_readHow_32 rfl (lv_at hl 0 rfl) ?_
    refine g_geti X w_M_2 fg_X6_42 KD_29 FR_29_5 dX6_readHow_33 ?_
    refine lv_goto (tgt := 41) hx hb dX6_readHow_36 (by decide) ?_
    obtain ⟨r, M_3, hc, hf⟩ := bnd_some hf
    refine g_cvi (As := [.int (i2 (M_2 29 5))]) (rest := []) X w_M_2 (k_X6_readCode X.2.2.1 (M_2 29 5) (w_M_2.2.2 _ _) w_M_2.2.2 hc) lk_X6_85 cl_6 KD_29 ⟨rfl, rfl⟩ ⟨nle rfl, nle rfl⟩ ⟨nle rfl, nle rfl⟩ hl.1 rfl (nle rfl) dX6_readHow_41 (fun hr H locs w_M_3 => ?_)
    obtain ⟨hz, hf⟩ := gd_some hf
    exact HR r M_3 _ _ _ _ (Option.some.inj hf).symm hz w_M_3 dX6_readHow_44
  · replace hf := ite_f cd hf
    refine lv_aload_n hx hb dX6_readHow_23 rfl (lv_at hl 0 rfl) ?_
    refine g_geti X w_M_2 fg_X6_42 KD_29 FR_29_5 dX6_readHow_24 ?_
    refine g_bipush X dX6_readHow_27 (by decide) ?_
    refine g_icmp_ne (tgt := 39) X (w_M_2.2.2 _ _) (inL rfl) dX6_readHow_29 (by decide) (fun cd_2 => ?_) (fun cd_2 => ?_)
    · replace hf := ite_f cd_2 hf
      refine g_bipush X dX6_readHow_39 (by decide) ?_
      obtain ⟨r_2, M_4, hc, hf⟩ := bnd_some hf
      refine g_cvi (As := [.int (i2 18)]) (rest := []) X w_M_2 (k_X6_readCode X.2.2.1 18 (inL rfl) w_M_2.2.2 hc) lk_X6_85 cl_6 KD_29 ⟨rfl, rfl⟩ ⟨nle rfl, nle rfl⟩ ⟨nle rfl, nle rfl⟩ hl.1 rfl (nle rfl) dX6_readHow_41 (fun hr_2 H locs w_M_4 => ?_)
      obtain ⟨hz_2, hf⟩ := gd_some hf
      exact HR r_2 M_4 _ _ _ _ (Option.some.inj hf).symm hz_2 w_M_4 dX6_readHow_44
    · replace hf := ite_t cd_2 hf
      refine lv_aload_n hx hb dX6_readHow_32 rfl (lv_at hl 0 rfl) ?_
      refine g_geti X w_M_2 fg_X6_42 KD_29 FR_29_5 dX6_readHow_33 ?_
      refine lv_goto (tgt := 41) hx hb dX6_readHow_36 (by decide) ?_
      obtain ⟨r_3, M_5, hc, hf⟩ := bnd_some hf
      refine g_cvi (As := [.int (i2 (M_2 29 5))]) (rest := []) X w_M_2 (k_X6_readCode X.2.2.1 (M_2 29 5) (w_M_2.2.2 _ _) w_M_2.2.2 hc) lk_X6_85 cl_6 KD_29 ⟨rfl, rfl⟩ ⟨nle rfl, nle rfl⟩ ⟨nle rfl, nle rfl⟩ hl.1 rfl (nle rfl) dX6_readHow_41 (fun hr_3 H locs w_M_5 => ?_)
      obtain ⟨hz_3, hf⟩ := gd_some hf
      exact HR r_3 M_5 _ _ _ _ (Option.some.inj hf).symm hz_3 w_M_5 dX6_readHow_44
set_option maxRecDepth 100000 in
set_option maxHeartbeats 4000000 in
theorem k_X6_readHow {l : Launch} {D : va_G} {aC : Nat → ClassId} {ad : Nat → Nat} {sg : SG} (hi : Inj ad) (p1 : Int) (hp1 : inR p1) {M : Mem} (hM : inM M) {r : Int} {M' : Mem} (hf : f_X6_readHow p1 M = some (r, M')) : MetI l D aC ad sg yX6_readHow cX6_readHow 2 (some .boolean) rm_X6_readHow 0 0 [.ref (ad 29), .int (i2 p1)] M r M' := by
  refine MetI.ofZ (by decide +kernel) (nle rfl) hi hM (fun p e s m args below meth c Q H0 ls X hl w hret => ?_)
  exact b_X6_readHow_0 X  (fun r1 M1 H locs pc ls eo hP w dg => by cases eo; exact hret H locs pc ls hP w dg) p1 hp1 M hf hl w
set_option maxRecDepth 100000 in
set_option maxHeartbeats 4000000 in
theorem b_X6_readBody_0 (X : CX p s m args c cX6_readBody 3 RX6 D aC ad sg A H0) {o : Int × Mem} (HR : ∀ (r : Int) (M1 : Mem) (H : Heap) (locs : List Loc) (pc : Nat) (ls : Array Slot), o = (r, M1) → isZ r → WS D aC ad A H0 M1 H locs → decode cX6_readBody pc = .ok (.ireturn, 1) → W p l e rm_X6_readBody s m args below meth c H locs 0 0 Q (F0 m pc ls [.int (i2 r)])) (p1 : Int) (hp1 : inR p1) (p2 : Int) (hp2 : inR p2) (M : Mem) (hf : f_X6_readBody p1 p2 M = some o) {H : Heap} {locs : List Loc} {ls : Array Slot} (hl : lv_has ls 3 [(0, .ref (ad 29)), (1, .int (i2 p1)), (2, .int (i2 p2))]) (w : WS D aC ad A H0 M H locs) : W p l e rm_X6_readBody s m args below meth c H locs 0 0 Q (F0 m 0 ls []) := by
  have hx := X.1.1
  have hb := X.1.2.1
  unfold f_X6_readBody at hf
  refine lv_iload_n hx hb dX6_readBody_0 rfl (lv_at hl 2 rfl) ?_
  by_cases cd : p2 < 8 ∨ 16 < p2
  · replace hf := ite_t cd hf
    refine g_tout (tgt := 198) X hp2 cd dX6_readBody_1 (by decide) ?_
    refine lv_aload_n hx hb dX6_readBody_198 rfl (lv_at hl 0 rfl) ?_
    refine lv_iload_n hx hb dX6_readBody_199 rfl (lv_at hl 1 rfl) ?_
    obtain ⟨r, M_2, hc, hf⟩ := bnd_some hf
    refine g_cvi (As := [.int (i2 p1)]) (rest := []) X w (k_X6_readWeight X.2.2.1 p1 hp1 w.2.2 hc) lk_X6_91 cl_6 KD_29 ⟨rfl, rfl⟩ ⟨nle rfl, nle rfl⟩ ⟨nle rfl, nle rfl⟩ hl.1 rfl (nle rfl) dX6_readBody_200 (fun hr H locs w_M_2 => ?_)
    obtain ⟨hz, hf⟩ := gd_some hf
    exact HR r M_2 _ _ _ _ (Option.some.inj hf).symm hz w_M_2 dX6_readBody_203
  · replace hf := ite_f cd hf
    by_cases cd_2 : p2 = 8
    · replace hf := ite_t cd_2 hf
      refine g_tin (tgt := 52) (k := 8) (off := 51) X cd_2 hp2 (by decide) (by decide) (by rfl) dX6_readBody_1 (by decide) ?_
      refine lv_aload_n hx hb dX6_readBody_52 rfl (lv_at hl 0 rfl) ?_
      refine g_geti X w fg_X6_42 KD_29 FR_29_5 dX6_readBody_53 ?_
      refine g_bipush X dX6_readBody_56 (by decide) ?_
      refine g_icmp_eq (tgt := 71) X (w.2.2 _ _) (inL rfl) dX6_readBody_58 (by decide) (fun cd_3 => ?_) (fun cd_3 => ?_)
      · replace hf := ite_t cd_3 hf
        refine lv_aload_n hx hb dX6_readBody_71 rfl (lv_at hl 0 rfl) ?_
        refine lv_iload_n hx hb dX6_readBody_72 rfl (lv_at hl 1 rfl) ?_
        obtain ⟨r_2, M_3, hc, hf⟩ := bnd_some hf
        refine g_cvi (As := [.int (i2 p1)]) (rest := []) X w (k_X6_readWeight X.2.2.1 p1 hp1 w.2.2 hc) lk_X6_91 cl_6 KD_29 ⟨rfl, rfl⟩ ⟨nle rfl, nle rfl⟩ ⟨nle rfl, nle rfl⟩ hl.1 rfl (nle rfl) dX6_readBody_73 (fun hr_2 H locs w_M_3 => ?_)
        refine g_if_eq (tgt := 83) X hr_2 dX6_readBody_76 (by decide) (fun cd_4 => ?_) (fun cd_4 => ?_)
        · replace hf := ite_t cd_4 hf
          refine g_iconst X dX6_readBody_83 ?_
          exact HR 0 M_3 _ _ _ _ (Option.some.inj hf).symm (Or.inl rfl) w_M_3 dX6_readBody_84
        · replace hf := ite_f cd_4 hf
          refine g_iconst X dX6_readBody_79 ?_
          refine lv_goto (tgt := 84) hx hb dX6_readBody_80 (by decide) ?_
          exact HR 1 M_3 _ _ _ _ (Option.some.inj hf).symm (Or.inr rfl) w_M_3 dX6_readBody_84
      · replace hf := ite_f cd_3 hf
        refine lv_aload_n hx hb dX6_readBody_61 rfl (lv_at hl 0 rfl) ?_
        refine g_iconst X dX6_readBody_62 ?_
        refine lv_iload_n hx hb dX6_readBody_63 rfl (lv_at hl 1 rfl) ?_
        refine g_imul X dX6_readBody_64 ?_
        obtain ⟨r_3, M_4, hc, hf⟩ := bnd_some hf
        refine g_cvi (As := [.int (i2 (wrap (2 * p1)))]) (rest := []) X w (k_X6_readTerms X.2.2.1 (wrap (2 * p1)) (inR_wrap _) w.2.2 hc) lk_X6_88 cl_6 KD_29 ⟨rfl, rfl⟩ ⟨nle rfl, nle rfl⟩ ⟨nle rfl, nle rfl⟩ hl.1 rfl (nle rfl) dX6_readBody_65 (fun hr_3 H locs w_M_4 => ?_)
        refine g_if_eq (tgt := 83) X hr_3 dX6_readBody_68 (by decide) (fun cd_5 => ?_) (fun cd_5 => ?_)
        · replace hf := ite_t cd_5 hf
          refine g_iconst X dX6_readBody_83 ?_
          exact HR 0 M_4 _ _ _ _ (Option.some.inj hf).symm (Or.inl rfl) w_M_4 dX6_readBody_84
        · replace hf := ite_f cd_5 hf
          refine lv_aload_n hx hb dX6_readBody_71 rfl (lv_at hl 0 rfl) ?_
          refine lv_iload_n hx hb dX6_readBody_72 rfl (lv_at hl 1 rfl) ?_
          obtain ⟨r_4, M_5, hc, hf⟩ := bnd_some hf
          refine g_cvi (As := [.int (i2 p1)]) (rest := []) X w_M_4 (k_X6_readWeight X.2.2.1 p1 hp1 w_M_4.2.2 hc) lk_X6_91 cl_6 KD_29 ⟨rfl, rfl⟩ ⟨nle rfl, nle rfl⟩ ⟨nle rfl, nle rfl⟩ hl.1 rfl (nle rfl) dX6_readBody_73 (fun hr_4 H locs w_M_5 => ?_)
          refine g_if_eq (tgt := 83) X hr_4 dX6_readBody_76 (by decide) (fun cd_6 => ?_) (fun cd_6 => ?_)
          · replace hf := ite_t cd_6 hf
            refine g_iconst X dX6_readBody_83 ?_
            exact HR 0 M_5 _ _ _ _ (Option.some.inj hf).symm (Or.inl rfl) w_M_5 dX6_readBody_84
          · replace hf := ite_f cd_6 hf
            refine g_iconst X dX6_readBody_79 ?_
            refine lv_goto (tgt := 84) hx hb dX6_readBody_80 (by decide) ?_
            exact HR 1 M_5 _ _ _ _ (Option.some.inj hf).symm (Or.inr rfl) w_M_5 dX6_readBody_84
    · replace hf := ite_f cd_2 hf
      by_cases cd_7 : p2 = 9
      · replace hf := ite_t cd_7 hf
        refine g_tin (tgt := 85) (k := 9) (off := 84) X cd_7 hp2 (by decide) (by decide) (by rfl) dX6_readBody_1 (by decide) ?_
        refine lv_aload_n hx hb dX6_readBody_85 rfl (lv_at hl 0 rfl) ?_
        refine lv_iload_n hx hb dX6_readBody_86 rfl (lv_at hl 1 rfl) ?_
        obtain ⟨r_5, M_6, hc, hf⟩ := bnd_some hf
        refine g_cvi (As := [.int (i2 p1)]) (rest := []) X w (k_X6_readTrait X.2.2.1 p1 hp1 w.2.2 hc) lk_X6_94 cl_6 KD_29 ⟨rfl, rfl⟩ ⟨nle rfl, nle rfl⟩ ⟨nle rfl, nle rfl⟩ hl.1 rfl (nle rfl) dX6_readBody_87 (fun hr_5 H locs w_M_6 => ?_)
        refine g_if_eq (tgt := 105) X hr_5 dX6_readBody_90 (by decide) (fun cd_8 => ?_) (fun cd_8 => ?_)
        · replace hf := ite_t cd_8 hf
          refine g_iconst X dX6_readBody_105 ?_
          exact HR 0 M_6 _ _ _ _ (Option.some.inj hf).symm (Or.inl rfl) w_M_6 dX6_readBody_106
        · replace hf := ite_f cd_8 hf
          refine lv_aload_n hx hb dX6_readBody_93 rfl (lv_at hl 0 rfl) ?_
          refine lv_iload_n hx hb dX6_readBody_94 rfl (lv_at hl 1 rfl) ?_
          obtain ⟨r_6, M_7, hc, hf⟩ := bnd_some hf
          refine g_cvi (As := [.int (i2 p1)]) (rest := []) X w_M_6 (k_X6_readWeight X.2.2.1 p1 hp1 w_M_6.2.2 hc) lk_X6_91 cl_6 KD_29 ⟨rfl, rfl⟩ ⟨nle rfl, nle rfl⟩ ⟨nle rfl, nle rfl⟩ hl.1 rfl (nle rfl) dX6_readBody_95 (fun hr_6 H locs w_M_7 => ?_)
          refine g_if_eq (tgt := 105) X hr_6 dX6_readBody_98 (by decide) (fun cd_9 => ?_) (fun cd_9 => ?_)
          · replace hf := ite_t cd_9 hf
            refine g_iconst X dX6_readBody_105 ?_
            exact HR 0 M_7 _ _ _ _ (Option.some.inj hf).symm (Or.inl rfl) w_M_7 dX6_readBody_106
          · replace hf := ite_f cd_9 hf
            refine g_iconst X dX6_readBody_101 ?_
            refine lv_goto (tgt := 106) hx hb dX6_readBody_102 (by decide) ?_
            exact HR 1 M_7 _ _ _ _ (Option.some.inj hf).symm (Or.inr rfl) w_M_7 dX6_readBody_106
      · replace hf := ite_f cd_7 hf
        by_cases cd_10 : p2 = 10
        · replace hf := ite_t cd_10 hf
          refine g_tin (tgt := 198) (k := 10) (off := 197) X cd_10 hp2 (by decide) (by decide) (by rfl) dX6_readBody_1 (by decide) ?_
          refine lv_aload_n hx hb dX6_readBody_198 rfl (lv_at hl 0 rfl) ?_
          refine lv_iload_n hx hb dX6_readBody_199 rfl (lv_at hl 1 rfl) ?_
          obtain ⟨r_7, M_8, hc, hf⟩ := bnd_some hf
          refine g_cvi (As := [.int (i2 p1)]) (rest := []) X w (k_X6_readWeight X.2.2.1 p1 hp1 w.2.2 hc) lk_X6_91 cl_6 KD_29 ⟨rfl, rfl⟩ ⟨nle rfl, nle rfl⟩ ⟨nle rfl, nle rfl⟩ hl.1 rfl (nle rfl) dX6_readBody_200 (fun hr_7 H locs w_M_8 => ?_)
          obtain ⟨hz_2, hf⟩ := gd_some hf
          exact HR r_7 M_8 _ _ _ _ (Option.some.inj hf).symm hz_2 w_M_8 dX6_readBody_203
        · replace hf := ite_f cd_10 hf
          by_cases cd_11 : p2 = 11
          · replace hf := ite_t cd_11 hf
            refine g_tin (tgt := 107) (k := 11) (off := 106) X cd_11 hp2 (by decide) (by decide) (by rfl) dX6_readBody_1 (by decide) ?_
            refine lv_aload_n hx hb dX6_readBody_107 rfl (lv_at hl 0 rfl) ?_
            refine g_iconst X dX6_readBody_108 ?_
            refine lv_iload_n hx hb dX6_readBody_109 rfl (lv_at hl 1 rfl) ?_
            refine g_imul X dX6_readBody_110 ?_
            obtain ⟨r_8, M_9, hc, hf⟩ := bnd_some hf
            refine g_cvi (As := [.int (i2 (wrap (2 * p1)))]) (rest := []) X w (k_X6_readTerms X.2.2.1 (wrap (2 * p1)) (inR_wrap _) w.2.2 hc) lk_X6_88 cl_6 KD_29 ⟨rfl, rfl⟩ ⟨nle rfl, nle rfl⟩ ⟨nle rfl, nle rfl⟩ hl.1 rfl (nle rfl) dX6_readBody_111 (fun hr_8 H locs w_M_9 => ?_)
            refine g_if_eq (tgt := 129) X hr_8 dX6_readBody_114 (by decide) (fun cd_12 => ?_) (fun cd_12 => ?_)
            · replace hf := ite_t cd_12 hf
              refine g_iconst X dX6_readBody_129 ?_
              exact HR 0 M_9 _ _ _ _ (Option.some.inj hf).symm (Or.inl rfl) w_M_9 dX6_readBody_130
            · replace hf := ite_f cd_12 hf
              refine lv_aload_n hx hb dX6_readBody_117 rfl (lv_at hl 0 rfl) ?_
              refine lv_iload_n hx hb dX6_readBody_118 rfl (lv_at hl 1 rfl) ?_
              obtain ⟨r_9, M_10, hc, hf⟩ := bnd_some hf
              refine g_cvi (As := [.int (i2 p1)]) (rest := []) X w_M_9 (k_X6_readWeight X.2.2.1 p1 hp1 w_M_9.2.2 hc) lk_X6_91 cl_6 KD_29 ⟨rfl, rfl⟩ ⟨nle rfl, nle rfl⟩ ⟨nle rfl, nle rfl⟩ hl.1 rfl (nle rfl) dX6_readBody_119 (fun hr_9 H locs w_M_10 => ?_)
              refine g_if_eq (tgt := 129) X hr_9 dX6_readBody_122 (by decide) (fun cd_13 => ?_) (fun cd_13 => ?_)
              · replace hf := ite_t cd_13 hf
                refine g_iconst X dX6_readBody_129 ?_
                exact HR 0 M_10 _ _ _ _ (Option.some.inj hf).symm (Or.inl rfl) w_M_10 dX6_readBody_130
              · replace hf := ite_f cd_13 hf
                refine g_iconst X dX6_readBody_125 ?_
                refine lv_goto (tgt := 130) hx hb dX6_readBody_126 (by decide) ?_
                exact HR 1 M_10 _ _ _ _ (Option.some.inj hf).symm (Or.inr rfl) w_M_10 dX6_readBody_130
          · replace hf := ite_f cd_11 hf
            by_cases cd_14 : p2 = 12
            · replace hf := ite_t cd_14 hf
              refine g_tin (tgt := 198) (k := 12) (off := 197) X cd_14 hp2 (by decide) (by decide) (by rfl) dX6_readBody_1 (by decide) ?_
              refine lv_aload_n hx hb dX6_readBody_198 rfl (lv_at hl 0 rfl) ?_
              refine lv_iload_n hx hb dX6_readBody_199 rfl (lv_at hl 1 rfl) ?_
              obtain ⟨r_10, M_11, hc, hf⟩ := bnd_some hf
              refine g_cvi (As := [.int (i2 p1)]) (rest := []) X w (k_X6_readWeight X.2.2.1 p1 hp1 w.2.2 hc) lk_X6_91 cl_6 KD_29 ⟨rfl, rfl⟩ ⟨nle rfl, nle rfl⟩ ⟨nle rfl, nle rfl⟩ hl.1 rfl (nle rfl) dX6_readBody_200 (fun hr_10 H locs w_M_11 => ?_)
              obtain ⟨hz_3, hf⟩ := gd_some hf
              exact HR r_10 M_11 _ _ _ _ (Option.some.inj hf).symm hz_3 w_M_11 dX6_readBody_203
            · replace hf := ite_f cd_14 hf
              by_cases cd_15 : p2 = 13
              · replace hf := ite_t cd_15 hf
                refine g_tin (tgt := 131) (k := 13) (off := 130) X cd_15 hp2 (by decide) (by decide) (by rfl) dX6_readBody_1 (by decide) ?_
                refine lv_aload_n hx hb dX6_readBody_131 rfl (lv_at hl 0 rfl) ?_
                refine g_iconst X dX6_readBody_132 ?_
                refine lv_iload_n hx hb dX6_readBody_133 rfl (lv_at hl 1 rfl) ?_
                refine g_imul X dX6_readBody_134 ?_
                obtain ⟨r_11, M_12, hc, hf⟩ := bnd_some hf
                refine g_cvi (As := [.int (i2 (wrap (2 * p1)))]) (rest := []) X w (k_X6_readTerms X.2.2.1 (wrap (2 * p1)) (inR_wrap _) w.2.2 hc) lk_X6_88 cl_6 KD_29 ⟨rfl, rfl⟩ ⟨nle rfl, nle rfl⟩ ⟨nle rfl, nle rfl⟩ hl.1 rfl (nle rfl) dX6_readBody_135 (fun hr_11 H locs w_M_12 => ?_)
                refine g_if_eq (tgt := 166) X hr_11 dX6_readBody_138 (by decide) (fun cd_16 => ?_) (fun cd_16 => ?_)
                · replace hf := ite_t cd_16 hf
                  refine g_iconst X dX6_readBody_166 ?_
                  exact HR 0 M_12 _ _ _ _ (Option.some.inj hf).symm (Or.inl rfl) w_M_12 dX6_readBody_167
                · replace hf := ite_f cd_16 hf
                  refine lv_aload_n hx hb dX6_readBody_141 rfl (lv_at hl 0 rfl) ?_
                  refine g_bipush X dX6_readBody_142 (by decide) ?_
                  obtain ⟨r_12, M_13, hc, hf⟩ := bnd_some hf
                  refine g_cvi (As := [.int (i2 21)]) (rest := []) X w_M_12 (k_X6_readCode X.2.2.1 21 (inL rfl) w_M_12.2.2 hc) lk_X6_85 cl_6 KD_29 ⟨rfl, rfl⟩ ⟨nle rfl, nle rfl⟩ ⟨nle rfl, nle rfl⟩ hl.1 rfl (nle rfl) dX6_readBody_144 (fun hr_12 H locs w_M_13 => ?_)
                  refine g_if_eq (tgt := 166) X hr_12 dX6_readBody_147 (by decide) (fun cd_17 => ?_) (fun cd_17 => ?_)
                  · replace hf := ite_t cd_17 hf
                    refine g_iconst X dX6_readBody_166 ?_
                    exact HR 0 M_13 _ _ _ _ (Option.some.inj hf).symm (Or.inl rfl) w_M_13 dX6_readBody_167
                  · replace hf := ite_f cd_17 hf
                    refine lv_aload_n hx hb dX6_readBody_150 rfl (lv_at hl 0 rfl) ?_
                    refine g_iconst X dX6_readBody_151 ?_
                    refine lv_iload_n hx hb dX6_readBody_152 rfl (lv_at hl 1 rfl) ?_
                    refine g_imul X dX6_readBody_153 ?_
                    refine g_iconst X dX6_readBody_154 ?_
                    refine g_iadd X dX6_readBody_155 ?_
                    obtain ⟨r_13, M_14, hc, hf⟩ := bnd_some hf
                    refine g_cvi (As := [.int (i2 (wrap ((wrap (2 * p1)) + 1)))]) (rest := []) X w_M_13 (k_X6_readTerms X.2.2.1 (wrap ((wrap (2 * p1)) + 1)) (inR_wrap _) w_M_13.2.2 hc) lk_X6_88 cl_6 KD_29 ⟨rfl, rfl⟩ ⟨nle rfl, nle rfl⟩ ⟨nle rfl, nle rfl⟩ hl.1 rfl (nle rfl) dX6_readBody_156 (fun hr_13 H locs w_M_14 => ?_)
                    refine g_if_eq (tgt := 166) X hr_13 dX6_readBody_159 (by decide) (fun cd_18 => ?_) (fun cd_18 => ?_)
                    · replace hf := ite_t cd_18 hf
                      refine g_iconst X dX6_readBody_166 ?_
                      exact HR 0 M_14 _ _ _ _ (Option.some.inj hf).symm (Or.inl rfl) w_M_14 dX6_readBody_167
                    · replace hf := ite_f cd_18 hf
                      refine g_iconst X dX6_readBody_162 ?_
                      refine lv_goto (tgt := 167) hx hb dX6_readBody_163 (by decide) ?_
                      exact HR 1 M_14 _ _ _ _ (Option.some.inj hf).symm (Or.inr rfl) w_M_14 dX6_readBody_167
              · replace hf := ite_f cd_15 hf
                by_cases cd_19 : p2 = 14
                · replace hf := ite_t cd_19 hf
                  refine g_tin (tgt := 168) (k := 14) (off := 167) X cd_19 hp2 (by decide) (by decide) (by rfl) dX6_readBody_1 (by decide) ?_
                  refine lv_aload_n hx hb dX6_readBody_168 rfl (lv_at hl 0 rfl) ?_
                  refine lv_iload_n hx hb dX6_readBody_169 rfl (lv_at hl 1 rfl) ?_
                  obtain ⟨r_14, M_15, hc, hf⟩ := bnd_some hf
                  refine g_cvi (As := [.int (i2 p1)]) (rest := []) X w (k_X6_readNumber X.2.2.1 p1 hp1 w.2.2 hc) lk_X6_97 cl_6 KD_29 ⟨rfl, rfl⟩ ⟨nle rfl, nle rfl⟩ ⟨nle rfl, nle rfl⟩ hl.1 rfl (nle rfl) dX6_readBody_170 (fun hr_14 H locs w_M_15 => ?_)
                  refine g_if_eq (tgt := 190) X hr_14 dX6_readBody_173 (by decide) (fun cd_20 => ?_) (fun cd_20 => ?_)
                  · replace hf := ite_t cd_20 hf
                    refine g_iconst X dX6_readBody_190 ?_
                    exact HR 0 M_15 _ _ _ _ (Option.some.inj hf).symm (Or.inl rfl) w_M_15 dX6_readBody_191
                  · replace hf := ite_f cd_20 hf
                    refine lv_aload_n hx hb dX6_readBody_176 rfl (lv_at hl 0 rfl) ?_
                    refine g_iconst X dX6_readBody_177 ?_
                    refine lv_iload_n hx hb dX6_readBody_178 rfl (lv_at hl 1 rfl) ?_
                    refine g_imul X dX6_readBody_179 ?_
                    obtain ⟨r_15, M_16, hc, hf⟩ := bnd_some hf
                    refine g_cvi (As := [.int (i2 (wrap (2 * p1)))]) (rest := []) X w_M_15 (k_X6_readTerms X.2.2.1 (wrap (2 * p1)) (inR_wrap _) w_M_15.2.2 hc) lk_X6_88 cl_6 KD_29 ⟨rfl, rfl⟩ ⟨nle rfl, nle rfl⟩ ⟨nle rfl, nle rfl⟩ hl.1 rfl (nle rfl) dX6_readBody_180 (fun hr_15 H locs w_M_16 => ?_)
                    refine g_if_eq (tgt := 190) X hr_15 dX6_readBody_183 (by decide) (fun cd_21 => ?_) (fun cd_21 => ?_)
                    · replace hf := ite_t cd_21 hf
                      refine g_iconst X dX6_readBody_190 ?_
                      exact HR 0 M_16 _ _ _ _ (Option.some.inj hf).symm (Or.inl rfl) w_M_16 dX6_readBody_191
                    · replace hf := ite_f cd_21 hf
                      refine g_iconst X dX6_readBody_186 ?_
                      refine lv_goto (tgt := 191) hx hb dX6_readBody_187 (by decide) ?_
                      exact HR 1 M_16 _ _ _ _ (Option.some.inj hf).symm (Or.inr rfl) w_M_16 dX6_readBody_191
                · replace hf := ite_f cd_19 hf
                  by_cases cd_22 : p2 = 15
                  · replace hf := ite_t cd_22 hf
                    refine g_tin (tgt := 168) (k := 15) (off := 167) X cd_22 hp2 (by decide) (by decide) (by rfl) dX6_readBody_1 (by decide) ?_
                    refine lv_aload_n hx hb dX6_readBody_168 rfl (lv_at hl 0 rfl) ?_
                    refine lv_iload_n hx hb dX6_readBody_169 rfl (lv_at hl 1 rfl) ?_
                    obtain ⟨r_16, M_17, hc, hf⟩ := bnd_some hf
                    refine g_cvi (As := [.int (i2 p1)]) (rest := []) X w (k_X6_readNumber X.2.2.1 p1 hp1 w.2.2 hc) lk_X6_97 cl_6 KD_29 ⟨rfl, rfl⟩ ⟨nle rfl, nle rfl⟩ ⟨nle rfl, nle rfl⟩ hl.1 rfl (nle rfl) dX6_readBody_170 (fun hr_16 H locs w_M_17 => ?_)
                    refine g_if_eq (tgt := 190) X hr_16 dX6_readBody_173 (by decide) (fun cd_23 => ?_) (fun cd_23 => ?_)
                    · replace hf := ite_t cd_23 hf
                      refine g_iconst X dX6_readBody_190 ?_
                      exact HR 0 M_17 _ _ _ _ (Option.some.inj hf).symm (Or.inl rfl) w_M_17 dX6_readBody_191
                    · replace hf := ite_f cd_23 hf
                      refine lv_aload_n hx hb dX6_readBody_176 rfl (lv_at hl 0 rfl) ?_
                      refine g_iconst X dX6_readBody_177 ?_
                      refine lv_iload_n hx hb dX6_readBody_178 rfl (lv_at hl 1 rfl) ?_
                      refine g_imul X dX6_readBody_179 ?_
                      obtain ⟨r_17, M_18, hc, hf⟩ := bnd_some hf
                      refine g_cvi (As := [.int (i2 (wrap (2 * p1)))]) (rest := []) X w_M_17 (k_X6_readTerms X.2.2.1 (wrap (2 * p1)) (inR_wrap _) w_M_17.2.2 hc) lk_X6_88 cl_6 KD_29 ⟨rfl, rfl⟩ ⟨nle rfl, nle rfl⟩ ⟨nle rfl, nle rfl⟩ hl.1 rfl (nle rfl) dX6_readBody_180 (fun hr_17 H locs w_M_18 => ?_)
                      refine g_if_eq (tgt := 190) X hr_17 dX6_readBody_183 (by decide) (fun cd_24 => ?_) (fun cd_24 => ?_)
                      · replace hf := ite_t cd_24 hf
                        refine g_iconst X dX6_readBody_190 ?_
                        exact HR 0 M_18 _ _ _ _ (Option.some.inj hf).symm (Or.inl rfl) w_M_18 dX6_readBody_191
                      · replace hf := ite_f cd_24 hf
                        refine g_iconst X dX6_readBody_186 ?_
                        refine lv_goto (tgt := 191) hx hb dX6_readBody_187 (by decide) ?_
                        exact HR 1 M_18 _ _ _ _ (Option.some.inj hf).symm (Or.inr rfl) w_M_18 dX6_readBody_191
                  · replace hf := ite_f cd_22 hf
                    by_cases cd_25 : p2 = 16
                    · replace hf := ite_t cd_25 hf
                      refine g_tin (tgt := 192) (k := 16) (off := 191) X cd_25 hp2 (by decide) (by decide) (by rfl) dX6_readBody_1 (by decide) ?_
                      refine lv_aload_n hx hb dX6_readBody_192 rfl (lv_at hl 0 rfl) ?_
                      refine lv_iload_n hx hb dX6_readBody_193 rfl (lv_at hl 1 rfl) ?_
                      obtain ⟨r_18, M_19, hc, hf⟩ := bnd_some hf
                      refine g_cvi (As := [.int (i2 p1)]) (rest := []) X w (k_X6_readHow X.2.2.1 p1 hp1 w.2.2 hc) lk_X6_100 cl_6 KD_29 ⟨rfl, rfl⟩ ⟨nle rfl, nle rfl⟩ ⟨nle rfl, nle rfl⟩ hl.1 rfl (nle rfl) dX6_readBody_194 (fun hr_18 H locs w_M_19 => ?_)
                      obtain ⟨hz_4, hf⟩ := gd_some hf
                      exact HR r_18 M_19 _ _ _ _ (Option.some.inj hf).symm hz_4 w_M_19 dX6_readBody_197
                    · replace hf := ite_f cd_25 hf
                      cases hf
set_option maxRecDepth 100000 in
set_option maxHeartbeats 4000000 in
theorem k_X6_readBody {l : Launch} {D : va_G} {aC : Nat → ClassId} {ad : Nat → Nat} {sg : SG} (hi : Inj ad) (p1 : Int) (hp1 : inR p1) (p2 : Int) (hp2 : inR p2) {M : Mem} (hM : inM M) {r : Int} {M' : Mem} (hf : f_X6_readBody p1 p2 M = some (r, M')) : MetI l D aC ad sg yX6_readBody cX6_readBody 3 (some .boolean) rm_X6_readBody 0 0 [.ref (ad 29), .int (i2 p1), .int (i2 p2)] M r M' := by
  refine MetI.ofZ (by decide +kernel) (nle rfl) hi hM (fun p e s m args below meth c Q H0 ls X hl w hret => ?_)
  exact b_X6_readBody_0 X  (fun r1 M1 H locs pc ls eo hP w dg => by cases eo; exact hret H locs pc ls hP w dg) p1 hp1 p2 hp2 M hf hl w
set_option maxRecDepth 100000 in
set_option maxHeartbeats 4000000 in
theorem b_X6_readStatement_0 (X : CX p s m args c cX6_readStatement 3 RX6 D aC ad sg A H0) {o : Int × Mem} (HR : ∀ (r : Int) (M1 : Mem) (H : Heap) (locs : List Loc) (pc : Nat) (ls : Array Slot), o = (r, M1) → isZ r → WS D aC ad A H0 M1 H locs → decode cX6_readStatement pc = .ok (.ireturn, 1) → W p l e rm_X6_readStatement s m args below meth c H locs 0 0 Q (F0 m pc ls [.int (i2 r)])) (p1 : Int) (hp1 : inR p1) (M : Mem) (hf : f_X6_readStatement p1 M = some o) {H : Heap} {locs : List Loc} {ls : Array Slot} (hl : lv_has ls 3 [(0, .ref (ad 29)), (1, .int (i2 p1))]) (w : WS D aC ad A H0 M H locs) : W p l e rm_X6_readStatement s m args below meth c H locs 0 0 Q (F0 m 0 ls []) := by
  have hx := X.1.1
  have hb := X.1.2.1
  unfold f_X6_readStatement at hf
  refine lv_aload_n hx hb dX6_readStatement_0 rfl (lv_at hl 0 rfl) ?_
  refine g_geti X w fg_X6_42 KD_29 FR_29_5 dX6_readStatement_1 ?_
  obtain ⟨v2, ev2, hf⟩ := lt_some hf
  have hv2 : inR v2 := inR_of ev2 (w.2.2 _ _)
  refine g_istn (v := v2) (lv' := [(2, .int (i2 v2)), (0, .ref (ad 29)), (1, .int (i2 p1))]) X ev2 dX6_readStatement_4 rfl hl (by decide) rfl (fun ls hl => ?_)
  refine lv_iload_n hx hb dX6_readStatement_5 rfl (lv_at hl 0 rfl) ?_
  refine g_bipush X dX6_readStatement_6 (by decide) ?_
  refine g_bipush X dX6_readStatement_8 (by decide) ?_
  obtain ⟨r, hc, hf⟩ := obn_some hf
  refine g_csn (As := [.int (i2 v2), .int (i2 8), .int (i2 16)]) (rest := []) X w (k_X10_within X.2.2.1 v2 hv2 8 (inL rfl) 16 (inL rfl) w.2.2 hc) lk_X6_68 ⟨rfl, rfl⟩ ⟨nle rfl, nle rfl⟩ ⟨nle rfl, nle rfl⟩ hl.1 rfl (nle rfl) dX6_readStatement_10 (fun hr H locs w => ?_)
  refine g_if_ne (tgt := 22) X hr dX6_readStatement_13 (by decide) (fun cd => ?_) (fun cd => ?_)
  · replace hf := ite_f cd hf
    refine lv_iload_n hx hb dX6_readStatement_22 rfl (lv_at hl 2 rfl) ?_
    refine g_bipush X dX6_readStatement_23 (by decide) ?_
    refine g_icmp_lt (tgt := 34) X hp1 (inL rfl) dX6_readStatement_25 (by decide) (fun cd_2 => ?_) (fun cd_2 => ?_)
    · replace hf := ite_t cd_2 hf
      refine lv_aload_n hx hb dX6_readStatement_34 rfl (lv_at hl 1 rfl) ?_
      obtain ⟨hru, hf⟩ := gd_some hf
      refine g_getd X w fg_X6_19 KD_29 FR_29_3 hru dX6_readStatement_35 ?_
      refine g_getr X w fg_X6_75 (KD_ru hru) (FR_ru_1 hru) dX6_readStatement_38 ?_
      refine lv_iload_n hx hb dX6_readStatement_41 rfl (lv_at hl 2 rfl) ?_
      refine lv_iload_n hx hb dX6_readStatement_42 rfl (lv_at hl 0 rfl) ?_
      obtain ⟨hg, hf⟩ := gd_some hf
      obtain ⟨M_2, eM_2, hf⟩ := lt_some hf
      refine g_iast X w (KD_ru_1 hru) hp1 hg hv2 dX6_readStatement_43 (fun H locs w_M_2 => ?_)
      rw [← eM_2] at w_M_2
      refine lv_aload_n hx hb dX6_readStatement_44 rfl (lv_at hl 1 rfl) ?_
      obtain ⟨hru_2, hf⟩ := gd_some hf
      refine g_getd X w_M_2 fg_X6_19 KD_29 FR_29_3 hru_2 dX6_readStatement_45 ?_
      refine lv_iload_n hx hb dX6_readStatement_48 rfl (lv_at hl 2 rfl) ?_
      refine g_iconst X dX6_readStatement_49 ?_
      refine g_iadd X dX6_readStatement_50 ?_
      obtain ⟨M_3, eM_3, hf⟩ := lt_some hf
      refine g_puti X w_M_2 fp_X6_78 (KD_ru hru_2) (FR_ru_0 hru_2) (inR_wrap _) dX6_readStatement_51 (fun H locs w_M_3 => ?_)
      rw [← eM_3] at w_M_3
      refine lv_aload_n hx hb dX6_readStatement_54 rfl (lv_at hl 1 rfl) ?_
      obtain ⟨M_4, hc, hf⟩ := obn_some hf
      refine g_cvv (As := []) (rest := []) X w_M_3 (k_X6_next X.2.2.1  w_M_3.2.2 hc) lk_X6_39 cl_6 KD_29 ⟨rfl, rfl⟩ ⟨nle rfl, nle rfl⟩ ⟨nle rfl, nle rfl⟩ hl.1 rfl (nle rfl) dX6_readStatement_55 (fun H locs w_M_4 => ?_)
      refine lv_aload_n hx hb dX6_readStatement_58 rfl (lv_at hl 1 rfl) ?_
      refine lv_iload_n hx hb dX6_readStatement_59 rfl (lv_at hl 2 rfl) ?_
      refine lv_iload_n hx hb dX6_readStatement_60 rfl (lv_at hl 0 rfl) ?_
      obtain ⟨r_2, M_5, hc, hf⟩ := bnd_some hf
      refine g_cvi (As := [.int (i2 p1), .int (i2 v2)]) (rest := []) X w_M_4 (k_X6_readBody X.2.2.1 p1 hp1 v2 hv2 w_M_4.2.2 hc) lk_X6_81 cl_6 KD_29 ⟨rfl, rfl⟩ ⟨nle rfl, nle rfl⟩ ⟨nle rfl, nle rfl⟩ hl.1 rfl (nle rfl) dX6_readStatement_61 (fun hr_2 H locs w_M_5 => ?_)
      refine g_if_eq (tgt := 80) X hr_2 dX6_readStatement_64 (by decide) (fun cd_3 => ?_) (fun cd_3 => ?_)
      · replace hf := ite_t cd_3 hf
        refine g_iconst X dX6_readStatement_80 ?_
        exact HR 0 M_5 _ _ _ _ (Option.some.inj hf).symm (Or.inl rfl) w_M_5 dX6_readStatement_81
      · replace hf := ite_f cd_3 hf
        refine lv_aload_n hx hb dX6_readStatement_67 rfl (lv_at hl 1 rfl) ?_
        refine g_bipush X dX6_readStatement_68 (by decide) ?_
        obtain ⟨r_3, M_6, hc, hf⟩ := bnd_some hf
        refine g_cvi (As := [.int (i2 59)]) (rest := []) X w_M_5 (k_X6_readCode X.2.2.1 59 (inL rfl) w_M_5.2.2 hc) lk_X6_85 cl_6 KD_29 ⟨rfl, rfl⟩ ⟨nle rfl, nle rfl⟩ ⟨nle rfl, nle rfl⟩ hl.1 rfl (nle rfl) dX6_readStatement_70 (fun hr_3 H locs w_M_6 => ?_)
        refine g_if_eq (tgt := 80) X hr_3 dX6_readStatement_73 (by decide) (fun cd_4 => ?_) (fun cd_4 => ?_)
        · replace hf := ite_t cd_4 hf
          refine g_iconst X dX6_readStatement_80 ?_
          exact HR 0 M_6 _ _ _ _ (Option.some.inj hf).symm (Or.inl rfl) w_M_6 dX6_readStatement_81
        · replace hf := ite_f cd_4 hf
          refine g_iconst X dX6_readStatement_76 ?_
          refine lv_goto (tgt := 81) hx hb dX6_readStatement_77 (by decide) ?_
          exact HR 1 M_6 _ _ _ _ (Option.some.inj hf).symm (Or.inr rfl) w_M_6 dX6_readStatement_81
    · replace hf := ite_f cd_2 hf
      refine lv_aload_n hx hb dX6_readStatement_28 rfl (lv_at hl 1 rfl) ?_
      refine g_iconst X dX6_readStatement_29 ?_
      obtain ⟨r_4, M_7, hc, hf⟩ := bnd_some hf
      refine g_cvi (As := [.int (i2 3)]) (rest := []) X w (k_X6_refuse X.2.2.1 3 (inL rfl) w.2.2 hc) lk_X6_72 cl_6 KD_29 ⟨rfl, rfl⟩ ⟨nle rfl, nle rfl⟩ ⟨nle rfl, nle rfl⟩ hl.1 rfl (nle rfl) dX6_readStatement_30 (fun hr_4 H locs w_M_7 => ?_)
      obtain ⟨hz, hf⟩ := gd_some hf
      exact HR r_4 M_7 _ _ _ _ (Option.some.inj hf).symm hz w_M_7 dX6_readStatement_33
  · replace hf := ite_t cd hf
    refine lv_aload_n hx hb dX6_readStatement_16 rfl (lv_at hl 1 rfl) ?_
    refine g_iconst X dX6_readStatement_17 ?_
    obtain ⟨r_5, M_8, hc, hf⟩ := bnd_some hf
    refine g_cvi (As := [.int (i2 1)]) (rest := []) X w (k_X6_refuse X.2.2.1 1 (inL rfl) w.2.2 hc) lk_X6_72 cl_6 KD_29 ⟨rfl, rfl⟩ ⟨nle rfl, nle rfl⟩ ⟨nle rfl, nle rfl⟩ hl.1 rfl (nle rfl) dX6_readStatement_18 (fun hr_5 H locs w_M_8 => ?_)
    obtain ⟨hz_2, hf⟩ := gd_some hf
    exact HR r_5 M_8 _ _ _ _ (Option.some.inj hf).symm hz_2 w_M_8 dX6_readStatement_21
set_option maxRecDepth 100000 in
set_option maxHeartbeats 4000000 in
theorem k_X6_readStatement {l : Launch} {D : va_G} {aC : Nat → ClassId} {ad : Nat → Nat} {sg : SG} (hi : Inj ad) (p1 : Int) (hp1 : inR p1) {M : Mem} (hM : inM M) {r : Int} {M' : Mem} (hf : f_X6_readStatement p1 M = some (r, M')) : MetI l D aC ad sg yX6_readStatement cX6_readStatement 3 (some .boolean) rm_X6_readStatement 0 0 [.ref (ad 29), .int (i2 p1)] M r M' := by
  refine MetI.ofZ (by decide +kernel) (nle rfl) hi hM (fun p e s m args below meth c Q H0 ls X hl w hret => ?_)
  exact b_X6_readStatement_0 X  (fun r1 M1 H locs pc ls eo hP w dg => by cases eo; exact hret H locs pc ls hP w dg) p1 hp1 M hf hl w
set_option maxRecDepth 100000 in
set_option maxHeartbeats 4000000 in
theorem b_X6_reads_s40 (X : CX p s m args c cX6_reads 3 RX6 D aC ad sg A H0) (p1 : Int) (hp1 : isRu p1) {o : (Int × Mem) ⊕ ((Int × Mem) ⊕ (Int × Mem))} (HC : ∀ (y2 : Int) (M1 : Mem) (H : Heap) (locs : List Loc) (ls : Array Slot), o = .inl (y2, M1) → inR y2 → lv_has ls 3 [(0, .ref (ad 29)), (2, .int (i2 y2))] → WS D aC ad A H0 M1 H locs → W p l e rm_X6_reads s m args below meth c H locs 0 0 Q (F0 m 40 ls [])) (HE : ∀ (y2 : Int) (M1 : Mem) (H : Heap) (locs : List Loc) (ls : Array Slot), o = .inr (.inl (y2, M1)) → inR y2 → lv_has ls 3 [(0, .ref (ad 29)), (2, .int (i2 y2))] → WS D aC ad A H0 M1 H locs → W p l e rm_X6_reads s m args below meth c H locs 0 0 Q (F0 m 70 ls [])) (HR : ∀ (r : Int) (M1 : Mem) (H : Heap) (locs : List Loc) (pc : Nat) (ls : Array Slot), o = .inr (.inr (r, M1)) → isZ r → WS D aC ad A H0 M1 H locs → decode cX6_reads pc = .ok (.ireturn, 1) → W p l e rm_X6_reads s m args below meth c H locs 0 0 Q (F0 m pc ls [.int (i2 r)])) (v2 : Int) (hv2 : inR v2) (M : Mem) (hf : f_X6_reads_s40 p1 v2 M = some o) {H : Heap} {locs : List Loc} {ls : Array Slot} (hl : lv_has ls 3 [(0, .ref (ad 29)), (2, .int (i2 v2))]) (w : WS D aC ad A H0 M H locs) : W p l e rm_X6_reads s m args below meth c H locs 0 0 Q (F0 m 40 ls []) := by
  have hx := X.1.1
  have hb := X.1.2.1
  unfold f_X6_reads_s40 at hf
  refine lv_iload_n hx hb dX6_reads_40 rfl (lv_at hl 1 rfl) ?_
  refine g_bipush X dX6_reads_41 (by decide) ?_
  refine g_icmp_gt (tgt := 70) X hv2 (inL rfl) dX6_reads_43 (by decide) (fun cd => ?_) (fun cd => ?_)
  · replace hf := ite_t cd hf
    exact HE v2 M _ _ _ (Option.some.inj hf).symm hv2 hl w
  · replace hf := ite_f cd hf
    refine lv_aload_n hx hb dX6_reads_46 rfl (lv_at hl 0 rfl) ?_
    refine g_geti X w fg_X6_42 KD_29 FR_29_5 dX6_reads_47 ?_
    refine g_iconst X dX6_reads_50 ?_
    refine g_icmp_eq (tgt := 70) X (w.2.2 _ _) (inL rfl) dX6_reads_51 (by decide) (fun cd_2 => ?_) (fun cd_2 => ?_)
    · replace hf := ite_t cd_2 hf
      exact HE v2 M _ _ _ (Option.some.inj hf).symm hv2 hl w
    · replace hf := ite_f cd_2 hf
      refine lv_aload_n hx hb dX6_reads_54 rfl (lv_at hl 0 rfl) ?_
      refine lv_iload_n hx hb dX6_reads_55 rfl (lv_at hl 1 rfl) ?_
      obtain ⟨r, M_2, hc, hf⟩ := bnd_some hf
      refine g_cvi (As := [.int (i2 v2)]) (rest := []) X w (k_X6_readStatement X.2.2.1 v2 hv2 w.2.2 hc) lk_X6_45 cl_6 KD_29 ⟨rfl, rfl⟩ ⟨nle rfl, nle rfl⟩ ⟨nle rfl, nle rfl⟩ hl.1 rfl (nle rfl) dX6_reads_56 (fun hr H locs w_M_2 => ?_)
      refine g_if_ne (tgt := 64) X hr dX6_reads_59 (by decide) (fun cd_3 => ?_) (fun cd_3 => ?_)
      · replace hf := ite_f cd_3 hf
        obtain ⟨v2_2, ev2_2, hf⟩ := lt_some hf
        have hv2_2 : inR v2_2 := inR_of ev2_2 (inR_wrap _)
        refine lv_iinc (v := i2 v2_2) (lv' := [(2, .int (i2 v2_2)), (0, .ref (ad 29))]) hx hb dX6_reads_64 hl (k := 1) rfl (by rw [ev2_2]; exact i2_add _ _) (by decide) rfl (fun ls hl => ?_)
        refine lv_goto (tgt := 40) hx hb dX6_reads_67 (by decide) ?_
        exact HC v2_2 M_2 _ _ _ (Option.some.inj hf).symm hv2_2 (lv_sub hl [1, 0] rfl) w_M_2
      · replace hf := ite_t cd_3 hf
        refine g_iconst X dX6_reads_62 ?_
        exact HR 0 M_2 _ _ _ _ (Option.some.inj hf).symm (Or.inl rfl) w_M_2 dX6_reads_63
set_option maxRecDepth 100000 in
set_option maxHeartbeats 4000000 in
theorem l_X6_reads_40 (X : CX p s m args c cX6_reads 3 RX6 D aC ad sg A H0) (p1 : Int) (hp1 : isRu p1) {out : (Int × Mem) ⊕ (Int × Mem)} (HE : ∀ (y2 : Int) (M1 : Mem) (H : Heap) (locs : List Loc) (ls : Array Slot), out = .inl (y2, M1) → inR y2 → lv_has ls 3 [(0, .ref (ad 29)), (2, .int (i2 y2))] → WS D aC ad A H0 M1 H locs → W p l e rm_X6_reads s m args below meth c H locs 0 0 Q (F0 m 70 ls [])) (HR : ∀ (r : Int) (M1 : Mem) (H : Heap) (locs : List Loc) (pc : Nat) (ls : Array Slot), out = .inr (r, M1) → isZ r → WS D aC ad A H0 M1 H locs → decode cX6_reads pc = .ok (.ireturn, 1) → W p l e rm_X6_reads s m args below meth c H locs 0 0 Q (F0 m pc ls [.int (i2 r)])) : ∀ (n : Nat) (v2 : Int) (M : Mem), whl (fun s => f_X6_reads_s40 p1 s.1 s.2) n (v2, M) = some out → inR v2 → ∀ {H : Heap} {locs : List Loc} {ls : Array Slot}, lv_has ls 3 [(0, .ref (ad 29)), (2, .int (i2 v2))] → WS D aC ad A H0 M H locs → W p l e rm_X6_reads s m args below meth c H locs 0 0 Q (F0 m 40 ls []) := by
  intro n
  induction n with
  | zero => intro v2 M hf; exact (whl_zero hf).elim
  | succ n ih =>
    intro v2 M hf hv2 H locs ls hl w
    obtain ⟨o, hf, hk1, hk2⟩ := whl_step hf
    exact b_X6_reads_s40 X p1 hp1 (fun y2 M1 H locs ls eo hy2 hl w => ih y2 M1 (hk1 _ eo) hy2 hl w) (fun y2 M1 H locs ls eo hy2 hl w => HE y2 M1 H locs ls (hk2 _ eo).symm hy2 hl w) (fun r M1 H locs pc ls eo hP w dg => HR r M1 H locs pc ls (hk2 _ eo).symm hP w dg) v2 hv2 M hf hl w
set_option maxRecDepth 100000 in
set_option maxHeartbeats 4000000 in
theorem b_X6_reads_j70 (X : CX p s m args c cX6_reads 3 RX6 D aC ad sg A H0) (p1 : Int) (hp1 : isRu p1) {o : Int × Mem} (HR : ∀ (r : Int) (M1 : Mem) (H : Heap) (locs : List Loc) (pc : Nat) (ls : Array Slot), o = (r, M1) → isZ r → WS D aC ad A H0 M1 H locs → decode cX6_reads pc = .ok (.ireturn, 1) → W p l e rm_X6_reads s m args below meth c H locs 0 0 Q (F0 m pc ls [.int (i2 r)])) (M : Mem) (hf : f_X6_reads_j70 p1 M = some o) {H : Heap} {locs : List Loc} {ls : Array Slot} (hl : lv_has ls 3 []) (w : WS D aC ad A H0 M H locs) : W p l e rm_X6_reads s m args below meth c H locs 0 0 Q (F0 m 70 ls []) := by
  have hx := X.1.1
  have hb := X.1.2.1
  unfold f_X6_reads_j70 at hf
  refine g_iconst X dX6_reads_70 ?_
  exact HR 1 M _ _ _ _ (Option.some.inj hf).symm (Or.inr rfl) w dX6_reads_71
set_option maxRecDepth 100000 in
set_option maxHeartbeats 4000000 in
theorem b_X6_reads_0 (X : CX p s m args c cX6_reads 3 RX6 D aC ad sg A H0) (p1 : Int) (hp1 : isRu p1) {o : Int × Mem} (HR : ∀ (r : Int) (M1 : Mem) (H : Heap) (locs : List Loc) (pc : Nat) (ls : Array Slot), o = (r, M1) → isZ r → WS D aC ad A H0 M1 H locs → decode cX6_reads pc = .ok (.ireturn, 1) → W p l e rm_X6_reads s m args below meth c H locs 0 0 Q (F0 m pc ls [.int (i2 r)])) (M : Mem) (hf : f_X6_reads p1 M = some o) {H : Heap} {locs : List Loc} {ls : Array Slot} (hl : lv_has ls 3 [(0, .ref (ad 29)), (1, .ref (ad p1.toNat))]) (w : WS D aC ad A H0 M H locs) : W p l e rm_X6_reads s m args below meth c H locs 0 0 Q (F0 m 0 ls []) := by
  have hx := X.1.1
  have hb := X.1.2.1
  unfold f_X6_reads at hf
  refine lv_aload_n hx hb dX6_reads_0 rfl (lv_at hl 0 rfl) ?_
  refine lv_aload_n hx hb dX6_reads_1 rfl (lv_at hl 1 rfl) ?_
  obtain ⟨M_2, eM_2, hf⟩ := lt_some hf
  refine g_putd X w fp_X6_19 KD_29 FR_29_3 hp1 dX6_reads_2 (fun H locs w_M_2 => ?_)
  rw [← eM_2] at w_M_2
  refine lv_aload_n hx hb dX6_reads_5 rfl (lv_at hl 0 rfl) ?_
  obtain ⟨hru, hf⟩ := gd_some hf
  refine g_getd X w_M_2 fg_X6_19 KD_29 FR_29_3 hru dX6_reads_6 ?_
  obtain ⟨M_3, hc, hf⟩ := obn_some hf
  refine g_cvv (As := []) (rest := []) X w_M_2 (k_X7_clear X.2.2.1 (M_2 29 3) hru w_M_2.2.2 hc) lk_X6_23 cl_7 (KD_ru hru) ⟨rfl, rfl⟩ ⟨nle rfl, nle rfl⟩ ⟨nle rfl, nle rfl⟩ hl.1 rfl (nle rfl) dX6_reads_9 (fun H locs w_M_3 => ?_)
  refine lv_aload_n hx hb dX6_reads_12 rfl (lv_at hl 0 rfl) ?_
  refine g_iconst X dX6_reads_13 ?_
  obtain ⟨M_4, eM_4, hf⟩ := lt_some hf
  refine g_puti X w_M_3 fp_X6_28 KD_29 FR_29_0 (inL rfl) dX6_reads_14 (fun H locs w_M_4 => ?_)
  rw [← eM_4] at w_M_4
  refine lv_aload_n hx hb dX6_reads_17 rfl (lv_at hl 0 rfl) ?_
  refine g_iconst X dX6_reads_18 ?_
  obtain ⟨M_5, eM_5, hf⟩ := lt_some hf
  refine g_puti X w_M_4 fp_X6_9 KD_29 FR_29_1 (inL rfl) dX6_reads_19 (fun H locs w_M_5 => ?_)
  rw [← eM_5] at w_M_5
  refine lv_aload_n hx hb dX6_reads_22 rfl (lv_at hl 0 rfl) ?_
  refine g_getr X w_M_5 fg_X6_15 KD_29 FR_29_2 dX6_reads_23 ?_
  obtain ⟨M_6, hc, hf⟩ := obn_some hf
  refine g_cvv (As := []) (rest := []) X w_M_5 (k_X9_scan X.2.2.1  w_M_5.2.2 hc) lk_X6_31 cl_9 KD_24 ⟨rfl, rfl⟩ ⟨nle rfl, nle rfl⟩ ⟨nle rfl, nle rfl⟩ hl.1 rfl (nle rfl) dX6_reads_26 (fun H locs w_M_6 => ?_)
  refine lv_aload_n hx hb dX6_reads_29 rfl (lv_at hl 0 rfl) ?_
  refine g_iconst X dX6_reads_30 ?_
  obtain ⟨M_7, eM_7, hf⟩ := lt_some hf
  refine g_puti X w_M_6 fp_X6_36 KD_29 FR_29_4 (inL rfl) dX6_reads_31 (fun H locs w_M_7 => ?_)
  rw [← eM_7] at w_M_7
  refine lv_aload_n hx hb dX6_reads_34 rfl (lv_at hl 0 rfl) ?_
  obtain ⟨M_8, hc, hf⟩ := obn_some hf
  refine g_cvv (As := []) (rest := []) X w_M_7 (k_X6_next X.2.2.1  w_M_7.2.2 hc) lk_X6_39 cl_6 KD_29 ⟨rfl, rfl⟩ ⟨nle rfl, nle rfl⟩ ⟨nle rfl, nle rfl⟩ hl.1 rfl (nle rfl) dX6_reads_35 (fun H locs w_M_8 => ?_)
  refine g_iconst X dX6_reads_38 ?_
  refine g_istn (v := 0) (lv' := [(2, .int (i2 0)), (0, .ref (ad 29)), (1, .ref (ad p1.toNat))]) X rfl dX6_reads_39 rfl hl (by decide) rfl (fun ls hl => ?_)
  obtain ⟨q, hq, h1, h2⟩ := lpr_some hf
  exact l_X6_reads_40 X p1 hp1 (out := q) (fun y2 M1 H locs ls eq hy2 hl w => b_X6_reads_j70 X p1 hp1 HR M1 (h1 _ eq) (lv_sub hl [] rfl) w) (fun r M1 H locs pc ls eq hP w dg => HR r M1 H locs pc ls (Option.some.inj (h2 _ eq)).symm hP w dg) FU 0 M_8 hq (inL rfl) (lv_sub hl [1, 0] rfl) w_M_8
set_option maxRecDepth 100000 in
set_option maxHeartbeats 4000000 in
theorem k_X6_reads {l : Launch} {D : va_G} {aC : Nat → ClassId} {ad : Nat → Nat} {sg : SG} (hi : Inj ad) (p1 : Int) (hp1 : isRu p1) {M : Mem} (hM : inM M) {r : Int} {M' : Mem} (hf : f_X6_reads p1 M = some (r, M')) : MetI l D aC ad sg yX6_reads cX6_reads 3 (some .boolean) rm_X6_reads 0 0 [.ref (ad 29), .ref (ad p1.toNat)] M r M' := by
  refine MetI.ofZ (by decide +kernel) (nle rfl) hi hM (fun p e s m args below meth c Q H0 ls X hl w hret => ?_)
  exact b_X6_reads_0 X p1 hp1 (fun r1 M1 H locs pc ls eo hP w dg => by cases eo; exact hret H locs pc ls hP w dg) M hf hl w
end
section
variable {p : Program} {l : Launch} {e : Env} {s : State} {m : MethodId} {args : Array Value} {below : List Frame} {meth : Method} {c : Code} {Q : State → Prop} {D : va_G} {aC : Nat → ClassId} {ad : Nat → Nat} {sg : SG} {A : Nat → Prop} {H0 : Heap}
set_option maxRecDepth 100000 in
set_option maxHeartbeats 4000000 in
theorem b_X10_isDay_0 (X : CX p s m args c cX10_isDay 2 RX10 D aC ad sg A H0) {M : Mem} {o : Int} (HR : ∀ (r : Int) (H : Heap) (locs : List Loc) (pc : Nat) (ls : Array Slot), o = r → isZ r → WS D aC ad A H0 M H locs → decode cX10_isDay pc = .ok (.ireturn, 1) → W p l e rm_X10_isDay s m args below meth c H locs 0 0 Q (F0 m pc ls [.int (i2 r)])) (p1 : Int) (hp1 : inR p1) (hf : f_X10_isDay p1 M = some o) {H : Heap} {locs : List Loc} {ls : Array Slot} (hl : lv_has ls 2 [(0, .ref (ad 0)), (1, .int (i2 p1))]) (w : WS D aC ad A H0 M H locs) : W p l e rm_X10_isDay s m args below meth c H locs 0 0 Q (F0 m 0 ls []) := by
  have hx := X.1.1
  have hb := X.1.2.1
  unfold f_X10_isDay at hf
  refine lv_iload_n hx hb dX10_isDay_0 rfl (lv_at hl 1 rfl) ?_
  refine g_iconst X dX10_isDay_1 ?_
  refine lv_aload_n hx hb dX10_isDay_2 rfl (lv_at hl 0 rfl) ?_
  refine g_geti X w fg_X10_113 KD_0 FR_0_13 dX10_isDay_3 ?_
  obtain ⟨r, hc, hf⟩ := obn_some hf
  refine g_csi (As := [.int (i2 p1), .int (i2 0), .int (i2 (M 0 13))]) (rest := []) X w (k_X10_within X.2.2.1 p1 hp1 0 (inL rfl) (M 0 13) (w.2.2 _ _) w.2.2 hc) lk_X10_105 ⟨rfl, rfl⟩ ⟨nle rfl, nle rfl⟩ ⟨nle rfl, nle rfl⟩ hl.1 rfl (nle rfl) dX10_isDay_6 (fun hr H locs w => ?_)
  obtain ⟨hz, hf⟩ := gd_some hf
  exact HR r _ _ _ _ (Option.some.inj hf).symm hz w dX10_isDay_9
set_option maxRecDepth 100000 in
set_option maxHeartbeats 4000000 in
theorem k_X10_isDay {l : Launch} {D : va_G} {aC : Nat → ClassId} {ad : Nat → Nat} {sg : SG} (hi : Inj ad) (p1 : Int) (hp1 : inR p1) {M : Mem} (hM : inM M) {r : Int} (hf : f_X10_isDay p1 M = some r) : MetI l D aC ad sg yX10_isDay cX10_isDay 2 (some .boolean) rm_X10_isDay 0 0 [.ref (ad 0), .int (i2 p1)] M r M := by
  refine MetI.ofZ (by decide +kernel) (nle rfl) hi hM (fun p e s m args below meth c Q H0 ls X hl w hret => ?_)
  exact b_X10_isDay_0 X  (fun r1 H locs pc ls eo hP w dg => by cases eo; exact hret H locs pc ls hP w dg) p1 hp1 hf hl w
set_option maxRecDepth 100000 in
set_option maxHeartbeats 4000000 in
theorem b_X10_searchBest_s57 (X : CX p s m args c cX10_searchBest 4 RX10 D aC ad sg A H0) (v2 : Int) (hv2 : inR v2) {o : (Int × Mem) ⊕ (Int × Mem)} (HC : ∀ (y3 : Int) (M1 : Mem) (H : Heap) (locs : List Loc) (ls : Array Slot), o = .inl (y3, M1) → inR y3 → lv_has ls 4 [(0, .ref (ad 0)), (2, .int (i2 v2)), (3, .int (i2 y3))] → WS D aC ad A H0 M1 H locs → W p l e rm_X10_searchBest s m args below meth c H locs 0 0 Q (F0 m 57 ls [])) (HE : ∀ (y3 : Int) (M1 : Mem) (H : Heap) (locs : List Loc) (ls : Array Slot), o = .inr (y3, M1) → inR y3 → lv_has ls 4 [(0, .ref (ad 0)), (2, .int (i2 v2)), (3, .int (i2 y3))] → WS D aC ad A H0 M1 H locs → W p l e rm_X10_searchBest s m args below meth c H locs 0 0 Q (F0 m 77 ls [])) (v3 : Int) (hv3 : inR v3) (M : Mem) (hf : f_X10_searchBest_s57 v2 v3 M = some o) {H : Heap} {locs : List Loc} {ls : Array Slot} (hl : lv_has ls 4 [(0, .ref (ad 0)), (2, .int (i2 v2)), (3, .int (i2 v3))]) (w : WS D aC ad A H0 M H locs) : W p l e rm_X10_searchBest s m args below meth c H locs 0 0 Q (F0 m 57 ls []) := by
  have hx := X.1.1
  have hb := X.1.2.1
  unfold f_X10_searchBest_s57 at hf
  refine lv_iload_n hx hb dX10_searchBest_57 rfl (lv_at hl 2 rfl) ?_
  refine lv_iload_n hx hb dX10_searchBest_58 rfl (lv_at hl 1 rfl) ?_
  refine g_icmp_ge (tgt := 77) X hv3 hv2 dX10_searchBest_59 (by decide) (fun cd => ?_) (fun cd => ?_)
  · replace hf := ite_t cd hf
    exact HE v3 M _ _ _ (Option.some.inj hf).symm hv3 hl w
  · replace hf := ite_f cd hf
    refine lv_aload_n hx hb dX10_searchBest_62 rfl (lv_at hl 0 rfl) ?_
    refine g_getr X w fg_X10_53 KD_0 FR_0_5 dX10_searchBest_63 ?_
    refine lv_iload_n hx hb dX10_searchBest_66 rfl (lv_at hl 2 rfl) ?_
    refine g_iconst X dX10_searchBest_67 ?_
    obtain ⟨M_2, hc, hf⟩ := obn_some hf
    refine g_cvv (As := [.int (i2 v3), .int (i2 (-1))]) (rest := []) X w (k_X8_admit X.2.2.1 v3 hv3 (-1) (inL rfl) w.2.2 hc) lk_X10_246 cl_8 KD_35 ⟨rfl, rfl⟩ ⟨nle rfl, nle rfl⟩ ⟨nle rfl, nle rfl⟩ hl.1 rfl (nle rfl) dX10_searchBest_68 (fun H locs w_M_2 => ?_)
    obtain ⟨v3_2, ev3_2, hf⟩ := lt_some hf
    have hv3_2 : inR v3_2 := inR_of ev3_2 (inR_wrap _)
    refine lv_iinc (v := i2 v3_2) (lv' := [(3, .int (i2 v3_2)), (0, .ref (ad 0)), (2, .int (i2 v2))]) hx hb dX10_searchBest_71 hl (k := 2) rfl (by rw [ev3_2]; exact i2_add _ _) (by decide) rfl (fun ls hl => ?_)
    refine lv_goto (tgt := 57) hx hb dX10_searchBest_74 (by decide) ?_
    exact HC v3_2 M_2 _ _ _ (Option.some.inj hf).symm hv3_2 (lv_sub hl [1, 2, 0] rfl) w_M_2
set_option maxRecDepth 100000 in
set_option maxHeartbeats 4000000 in
theorem l_X10_searchBest_57 (X : CX p s m args c cX10_searchBest 4 RX10 D aC ad sg A H0) (v2 : Int) (hv2 : inR v2) {out : Int × Mem} (HE : ∀ (y3 : Int) (M1 : Mem) (H : Heap) (locs : List Loc) (ls : Array Slot), out = (y3, M1) → inR y3 → lv_has ls 4 [(0, .ref (ad 0)), (2, .int (i2 v2)), (3, .int (i2 y3))] → WS D aC ad A H0 M1 H locs → W p l e rm_X10_searchBest s m args below meth c H locs 0 0 Q (F0 m 77 ls [])) : ∀ (n : Nat) (v3 : Int) (M : Mem), whl (fun s => f_X10_searchBest_s57 v2 s.1 s.2) n (v3, M) = some out → inR v3 → ∀ {H : Heap} {locs : List Loc} {ls : Array Slot}, lv_has ls 4 [(0, .ref (ad 0)), (2, .int (i2 v2)), (3, .int (i2 v3))] → WS D aC ad A H0 M H locs → W p l e rm_X10_searchBest s m args below meth c H locs 0 0 Q (F0 m 57 ls []) := by
  intro n
  induction n with
  | zero => intro v3 M hf; exact (whl_zero hf).elim
  | succ n ih =>
    intro v3 M hf hv3 H locs ls hl w
    obtain ⟨o, hf, hk1, hk2⟩ := whl_step hf
    exact b_X10_searchBest_s57 X v2 hv2 (fun y3 M1 H locs ls eo hy3 hl w => ih y3 M1 (hk1 _ eo) hy3 hl w) (fun y3 M1 H locs ls eo hy3 hl w => HE y3 M1 H locs ls (hk2 _ eo).symm hy3 hl w) v3 hv3 M hf hl w
set_option maxRecDepth 100000 in
set_option maxHeartbeats 4000000 in
theorem b_X10_searchBest_j77 (X : CX p s m args c cX10_searchBest 4 RX10 D aC ad sg A H0) {o : Int × Mem} (HR : ∀ (r : Int) (M1 : Mem) (H : Heap) (locs : List Loc) (pc : Nat) (ls : Array Slot), o = (r, M1) → inR r → WS D aC ad A H0 M1 H locs → decode cX10_searchBest pc = .ok (.ireturn, 1) → W p l e rm_X10_searchBest s m args below meth c H locs 0 0 Q (F0 m pc ls [.int (i2 r)])) (M : Mem) (hf : f_X10_searchBest_j77 M = some o) {H : Heap} {locs : List Loc} {ls : Array Slot} (hl : lv_has ls 4 [(0, .ref (ad 0))]) (w : WS D aC ad A H0 M H locs) : W p l e rm_X10_searchBest s m args below meth c H locs 0 0 Q (F0 m 77 ls []) := by
  have hx := X.1.1
  have hb := X.1.2.1
  unfold f_X10_searchBest_j77 at hf
  refine lv_aload_n hx hb dX10_searchBest_77 rfl (lv_at hl 0 rfl) ?_
  refine g_getr X w fg_X10_53 KD_0 FR_0_5 dX10_searchBest_78 ?_
  obtain ⟨M_2, hc, hf⟩ := obn_some hf
  refine g_cvv (As := []) (rest := []) X w (k_X8_run X.2.2.1  w.2.2 hc) lk_X10_249 cl_8 KD_35 ⟨rfl, rfl⟩ ⟨nle rfl, nle rfl⟩ ⟨nle rfl, nle rfl⟩ hl.1 rfl (nle rfl) dX10_searchBest_81 (fun H locs w_M_2 => ?_)
  refine lv_aload_n hx hb dX10_searchBest_84 rfl (lv_at hl 0 rfl) ?_
  refine g_getr X w_M_2 fg_X10_53 KD_0 FR_0_5 dX10_searchBest_85 ?_
  refine g_geti X w_M_2 fg_X10_252 KD_35 FR_35_17 dX10_searchBest_88 ?_
  refine g_if_eq (tgt := 104) X (w_M_2.2.2 _ _) dX10_searchBest_91 (by decide) (fun cd => ?_) (fun cd => ?_)
  · replace hf := ite_t cd hf
    refine g_bipush X dX10_searchBest_104 (by decide) ?_
    exact HR (-2) M_2 _ _ _ _ (Option.some.inj hf).symm (inL rfl) w_M_2 dX10_searchBest_106
  · replace hf := ite_f cd hf
    refine lv_aload_n hx hb dX10_searchBest_94 rfl (lv_at hl 0 rfl) ?_
    refine g_getr X w_M_2 fg_X10_53 KD_0 FR_0_5 dX10_searchBest_95 ?_
    refine g_geti X w_M_2 fg_X10_383 KD_35 FR_35_19 dX10_searchBest_98 ?_
    refine lv_goto (tgt := 106) hx hb dX10_searchBest_101 (by decide) ?_
    exact HR (M_2 35 19) M_2 _ _ _ _ (Option.some.inj hf).symm (w_M_2.2.2 _ _) w_M_2 dX10_searchBest_106
set_option maxRecDepth 100000 in
set_option maxHeartbeats 4000000 in
theorem b_X10_searchBest_j20 (X : CX p s m args c cX10_searchBest 4 RX10 D aC ad sg A H0) {o : Int × Mem} (HR : ∀ (r : Int) (M1 : Mem) (H : Heap) (locs : List Loc) (pc : Nat) (ls : Array Slot), o = (r, M1) → inR r → WS D aC ad A H0 M1 H locs → decode cX10_searchBest pc = .ok (.ireturn, 1) → W p l e rm_X10_searchBest s m args below meth c H locs 0 0 Q (F0 m pc ls [.int (i2 r)])) (v1 : Int) (hv1 : inR v1) (s0 : Int) (hs0 : inR s0) (M : Mem) (hf : f_X10_searchBest_j20 v1 s0 M = some o) {H : Heap} {locs : List Loc} {ls : Array Slot} (hl : lv_has ls 4 [(0, .ref (ad 0)), (1, .int (i2 v1))]) (w : WS D aC ad A H0 M H locs) : W p l e rm_X10_searchBest s m args below meth c H locs 0 0 Q (F0 m 20 ls [.int (i2 s0)]) := by
  have hx := X.1.1
  have hb := X.1.2.1
  unfold f_X10_searchBest_j20 at hf
  refine g_istn (v := s0) (lv' := [(2, .int (i2 s0)), (0, .ref (ad 0)), (1, .int (i2 v1))]) X rfl dX10_searchBest_20 rfl hl (by decide) rfl (fun ls hl => ?_)
  refine lv_iload_n hx hb dX10_searchBest_21 rfl (lv_at hl 0 rfl) ?_
  refine g_if_ne (tgt := 27) X hs0 dX10_searchBest_22 (by decide) (fun cd => ?_) (fun cd => ?_)
  · replace hf := ite_f cd hf
    refine lv_iload_n hx hb dX10_searchBest_27 rfl (lv_at hl 0 rfl) ?_
    refine g_bipush X dX10_searchBest_28 (by decide) ?_
    refine g_icmp_le (tgt := 36) X hs0 (inL rfl) dX10_searchBest_30 (by decide) (fun cd_2 => ?_) (fun cd_2 => ?_)
    · replace hf := ite_t cd_2 hf
      refine lv_aload_n hx hb dX10_searchBest_36 rfl (lv_at hl 1 rfl) ?_
      refine g_getr X w fg_X10_44 KD_0 FR_0_4 dX10_searchBest_37 ?_
      refine lv_aload_n hx hb dX10_searchBest_40 rfl (lv_at hl 1 rfl) ?_
      obtain ⟨hru, hf⟩ := gd_some hf
      refine g_getd X w fg_X10_94 KD_0 FR_0_11 hru dX10_searchBest_41 ?_
      refine lv_iload_n hx hb dX10_searchBest_44 rfl (lv_at hl 2 rfl) ?_
      obtain ⟨M_2, hc, hf⟩ := obn_some hf
      refine g_cvv (As := [.ref (ad ((M 0 11).toNat)), .int (i2 v1)]) (rest := []) X w (k_X4_prepare X.2.2.1 (M 0 11) hru v1 hv1 w.2.2 hc) lk_X10_186 cl_4 KD_30 ⟨rfl, rfl⟩ ⟨nle rfl, nle rfl⟩ ⟨nle rfl, nle rfl⟩ hl.1 rfl (nle rfl) dX10_searchBest_45 (fun H locs w_M_2 => ?_)
      refine lv_aload_n hx hb dX10_searchBest_48 rfl (lv_at hl 1 rfl) ?_
      refine g_getr X w_M_2 fg_X10_53 KD_0 FR_0_5 dX10_searchBest_49 ?_
      obtain ⟨M_3, hc, hf⟩ := obn_some hf
      refine g_cvv (As := []) (rest := []) X w_M_2 (k_X8_begin X.2.2.1  w_M_2.2.2 hc) lk_X10_243 cl_8 KD_35 ⟨rfl, rfl⟩ ⟨nle rfl, nle rfl⟩ ⟨nle rfl, nle rfl⟩ hl.1 rfl (nle rfl) dX10_searchBest_52 (fun H locs w_M_3 => ?_)
      refine g_iconst X dX10_searchBest_55 ?_
      refine g_istn (v := 0) (lv' := [(3, .int (i2 0)), (2, .int (i2 s0)), (0, .ref (ad 0)), (1, .int (i2 v1))]) X rfl dX10_searchBest_56 rfl hl (by decide) rfl (fun ls hl => ?_)
      obtain ⟨q, hq, h1⟩ := obn_some hf
      exact l_X10_searchBest_57 X s0 hs0 (out := q) (fun y3 M1 H locs ls eq hy3 hl w => b_X10_searchBest_j77 X  HR M1 (by subst eq; exact h1) (lv_sub hl [0] rfl) w)  FU 0 M_3 hq (inL rfl) (lv_sub hl [2, 1, 0] rfl) w_M_3
    · replace hf := ite_f cd_2 hf
      refine g_bipush X dX10_searchBest_33 (by decide) ?_
      exact HR (-3) M _ _ _ _ (Option.some.inj hf).symm (inL rfl) w dX10_searchBest_35
  · replace hf := ite_t cd hf
    refine g_iconst X dX10_searchBest_25 ?_
    exact HR (-1) M _ _ _ _ (Option.some.inj hf).symm (inL rfl) w dX10_searchBest_26
set_option maxRecDepth 100000 in
set_option maxHeartbeats 4000000 in
theorem b_X10_searchBest_0 (X : CX p s m args c cX10_searchBest 4 RX10 D aC ad sg A H0) {o : Int × Mem} (HR : ∀ (r : Int) (M1 : Mem) (H : Heap) (locs : List Loc) (pc : Nat) (ls : Array Slot), o = (r, M1) → inR r → WS D aC ad A H0 M1 H locs → decode cX10_searchBest pc = .ok (.ireturn, 1) → W p l e rm_X10_searchBest s m args below meth c H locs 0 0 Q (F0 m pc ls [.int (i2 r)])) (p1 : Int) (hp1 : inR p1) (M : Mem) (hf : f_X10_searchBest p1 M = some o) {H : Heap} {locs : List Loc} {ls : Array Slot} (hl : lv_has ls 4 [(0, .ref (ad 0)), (1, .int (i2 p1))]) (w : WS D aC ad A H0 M H locs) : W p l e rm_X10_searchBest s m args below meth c H locs 0 0 Q (F0 m 0 ls []) := by
  have hx := X.1.1
  have hb := X.1.2.1
  unfold f_X10_searchBest at hf
  refine lv_aload_n hx hb dX10_searchBest_0 rfl (lv_at hl 0 rfl) ?_
  refine lv_iload_n hx hb dX10_searchBest_1 rfl (lv_at hl 1 rfl) ?_
  obtain ⟨r, hc, hf⟩ := obn_some hf
  refine g_cvi (As := [.int (i2 p1)]) (rest := []) X w (k_X10_isDay X.2.2.1 p1 hp1 w.2.2 hc) lk_X10_180 cl_10 KD_0 ⟨rfl, rfl⟩ ⟨nle rfl, nle rfl⟩ ⟨nle rfl, nle rfl⟩ hl.1 rfl (nle rfl) dX10_searchBest_2 (fun hr H locs w => ?_)
  refine g_if_eq (tgt := 19) X hr dX10_searchBest_5 (by decide) (fun cd => ?_) (fun cd => ?_)
  · replace hf := ite_t cd hf
    refine g_iconst X dX10_searchBest_19 ?_
    exact b_X10_searchBest_j20 X  HR p1 hp1 0 (inL rfl) M hf hl w
  · replace hf := ite_f cd hf
    refine lv_aload_n hx hb dX10_searchBest_8 rfl (lv_at hl 0 rfl) ?_
    refine g_getr X w fg_X10_10 KD_0 FR_0_0 dX10_searchBest_9 ?_
    refine lv_iload_n hx hb dX10_searchBest_12 rfl (lv_at hl 1 rfl) ?_
    obtain ⟨r_2, hc, hf⟩ := obn_some hf
    refine g_cvi (As := [.int (i2 p1)]) (rest := []) X w (k_X1_cameBy X.2.2.1 p1 hp1 w.2.2 hc) lk_X10_380 cl_1 KD_3 ⟨rfl, rfl⟩ ⟨nle rfl, nle rfl⟩ ⟨nle rfl, nle rfl⟩ hl.1 rfl (nle rfl) dX10_searchBest_13 (fun hr_2 H locs w => ?_)
    refine lv_goto (tgt := 20) hx hb dX10_searchBest_16 (by decide) ?_
    exact b_X10_searchBest_j20 X  HR p1 hp1 r_2 hr_2 M hf hl w
set_option maxRecDepth 100000 in
set_option maxHeartbeats 4000000 in
theorem k_X10_searchBest {l : Launch} {D : va_G} {aC : Nat → ClassId} {ad : Nat → Nat} {sg : SG} (hi : Inj ad) (p1 : Int) (hp1 : inR p1) {M : Mem} (hM : inM M) {r : Int} {M' : Mem} (hf : f_X10_searchBest p1 M = some (r, M')) : MetI l D aC ad sg yX10_searchBest cX10_searchBest 4 (some .int) rm_X10_searchBest 0 0 [.ref (ad 0), .int (i2 p1)] M r M' := by
  refine MetI.ofI (by decide +kernel) (nle rfl) hi hM (fun p e s m args below meth c Q H0 ls X hl w hret => ?_)
  exact b_X10_searchBest_0 X  (fun r1 M1 H locs pc ls eo hP w dg => by cases eo; exact hret H locs pc ls hP w dg) p1 hp1 M hf hl w
set_option maxRecDepth 100000 in
set_option maxHeartbeats 4000000 in
theorem b_X10_bestPlan_0 (X : CX p s m args c cX10_bestPlan 2 RX10 D aC ad sg A H0) {o : Int × Mem} (HR : ∀ (r : Int) (M1 : Mem) (H : Heap) (locs : List Loc) (pc : Nat) (ls : Array Slot), o = (r, M1) → inR r → WS D aC ad A H0 M1 H locs → decode cX10_bestPlan pc = .ok (.ireturn, 1) → W p l e rm_X10_bestPlan s m args below meth c H locs 0 0 Q (F0 m pc ls [.int (i2 r)])) (p1 : Int) (hp1 : inR p1) (M : Mem) (hf : f_X10_bestPlan p1 M = some o) {H : Heap} {locs : List Loc} {ls : Array Slot} (hl : lv_has ls 2 [(0, .ref (ad 0)), (1, .int (i2 p1))]) (w : WS D aC ad A H0 M H locs) : W p l e rm_X10_bestPlan s m args below meth c H locs 0 0 Q (F0 m 0 ls []) := by
  have hx := X.1.1
  have hb := X.1.2.1
  unfold f_X10_bestPlan at hf
  refine lv_aload_n hx hb dX10_bestPlan_0 rfl (lv_at hl 0 rfl) ?_
  refine g_geti X w fg_X10_109 KD_0 FR_0_16 dX10_bestPlan_1 ?_
  refine g_if_eq (tgt := 15) X (w.2.2 _ _) dX10_bestPlan_4 (by decide) (fun cd => ?_) (fun cd => ?_)
  · replace hf := ite_t cd hf
    refine lv_aload_n hx hb dX10_bestPlan_15 rfl (lv_at hl 0 rfl) ?_
    refine lv_aload_n hx hb dX10_bestPlan_16 rfl (lv_at hl 0 rfl) ?_
    refine lv_iload_n hx hb dX10_bestPlan_17 rfl (lv_at hl 1 rfl) ?_
    obtain ⟨r, M_2, hc, hf⟩ := bnd_some hf
    refine g_cvi (As := [.int (i2 p1)]) (rest := [.ref (ad 0)]) X w (k_X10_searchBest X.2.2.1 p1 hp1 w.2.2 hc) lk_X10_374 cl_10 KD_0 ⟨rfl, rfl⟩ ⟨nle rfl, nle rfl⟩ ⟨nle rfl, nle rfl⟩ hl.1 rfl (nle rfl) dX10_bestPlan_18 (fun hr H locs w_M_2 => ?_)
    obtain ⟨M_3, eM_3, hf⟩ := lt_some hf
    refine g_puti X w_M_2 fp_X10_377 KD_0 FR_0_18 hr dX10_bestPlan_21 (fun H locs w_M_3 => ?_)
    rw [← eM_3] at w_M_3
    refine lv_aload_n hx hb dX10_bestPlan_24 rfl (lv_at hl 0 rfl) ?_
    refine lv_iload_n hx hb dX10_bestPlan_25 rfl (lv_at hl 1 rfl) ?_
    obtain ⟨M_4, eM_4, hf⟩ := lt_some hf
    refine g_puti X w_M_3 fp_X10_371 KD_0 FR_0_17 hp1 dX10_bestPlan_26 (fun H locs w_M_4 => ?_)
    rw [← eM_4] at w_M_4
    refine lv_aload_n hx hb dX10_bestPlan_29 rfl (lv_at hl 0 rfl) ?_
    refine g_iconst X dX10_bestPlan_30 ?_
    obtain ⟨M_5, eM_5, hf⟩ := lt_some hf
    refine g_putz X w_M_4 fp_X10_109 KD_0 FR_0_16 (Or.inr rfl) dX10_bestPlan_31 (fun H locs w_M_5 => ?_)
    rw [← eM_5] at w_M_5
    refine lv_aload_n hx hb dX10_bestPlan_34 rfl (lv_at hl 0 rfl) ?_
    refine g_geti X w_M_5 fg_X10_377 KD_0 FR_0_18 dX10_bestPlan_35 ?_
    exact HR (M_5 0 18) M_5 _ _ _ _ (Option.some.inj hf).symm (w_M_5.2.2 _ _) w_M_5 dX10_bestPlan_38
  · replace hf := ite_f cd hf
    refine lv_aload_n hx hb dX10_bestPlan_7 rfl (lv_at hl 0 rfl) ?_
    refine g_geti X w fg_X10_371 KD_0 FR_0_17 dX10_bestPlan_8 ?_
    refine lv_iload_n hx hb dX10_bestPlan_11 rfl (lv_at hl 1 rfl) ?_
    refine g_icmp_eq (tgt := 34) X (w.2.2 _ _) hp1 dX10_bestPlan_12 (by decide) (fun cd_2 => ?_) (fun cd_2 => ?_)
    · replace hf := ite_t cd_2 hf
      refine lv_aload_n hx hb dX10_bestPlan_34 rfl (lv_at hl 0 rfl) ?_
      refine g_geti X w fg_X10_377 KD_0 FR_0_18 dX10_bestPlan_35 ?_
      exact HR (M 0 18) M _ _ _ _ (Option.some.inj hf).symm (w.2.2 _ _) w dX10_bestPlan_38
    · replace hf := ite_f cd_2 hf
      refine lv_aload_n hx hb dX10_bestPlan_15 rfl (lv_at hl 0 rfl) ?_
      refine lv_aload_n hx hb dX10_bestPlan_16 rfl (lv_at hl 0 rfl) ?_
      refine lv_iload_n hx hb dX10_bestPlan_17 rfl (lv_at hl 1 rfl) ?_
      obtain ⟨r_2, M_6, hc, hf⟩ := bnd_some hf
      refine g_cvi (As := [.int (i2 p1)]) (rest := [.ref (ad 0)]) X w (k_X10_searchBest X.2.2.1 p1 hp1 w.2.2 hc) lk_X10_374 cl_10 KD_0 ⟨rfl, rfl⟩ ⟨nle rfl, nle rfl⟩ ⟨nle rfl, nle rfl⟩ hl.1 rfl (nle rfl) dX10_bestPlan_18 (fun hr_2 H locs w_M_6 => ?_)
      obtain ⟨M_7, eM_7, hf⟩ := lt_some hf
      refine g_puti X w_M_6 fp_X10_377 KD_0 FR_0_18 hr_2 dX10_bestPlan_21 (fun H locs w_M_7 => ?_)
      rw [← eM_7] at w_M_7
      refine lv_aload_n hx hb dX10_bestPlan_24 rfl (lv_at hl 0 rfl) ?_
      refine lv_iload_n hx hb dX10_bestPlan_25 rfl (lv_at hl 1 rfl) ?_
      obtain ⟨M_8, eM_8, hf⟩ := lt_some hf
      refine g_puti X w_M_7 fp_X10_371 KD_0 FR_0_17 hp1 dX10_bestPlan_26 (fun H locs w_M_8 => ?_)
      rw [← eM_8] at w_M_8
      refine lv_aload_n hx hb dX10_bestPlan_29 rfl (lv_at hl 0 rfl) ?_
      refine g_iconst X dX10_bestPlan_30 ?_
      obtain ⟨M_9, eM_9, hf⟩ := lt_some hf
      refine g_putz X w_M_8 fp_X10_109 KD_0 FR_0_16 (Or.inr rfl) dX10_bestPlan_31 (fun H locs w_M_9 => ?_)
      rw [← eM_9] at w_M_9
      refine lv_aload_n hx hb dX10_bestPlan_34 rfl (lv_at hl 0 rfl) ?_
      refine g_geti X w_M_9 fg_X10_377 KD_0 FR_0_18 dX10_bestPlan_35 ?_
      exact HR (M_9 0 18) M_9 _ _ _ _ (Option.some.inj hf).symm (w_M_9.2.2 _ _) w_M_9 dX10_bestPlan_38
set_option maxRecDepth 100000 in
set_option maxHeartbeats 4000000 in
theorem k_X10_bestPlan {l : Launch} {D : va_G} {aC : Nat → ClassId} {ad : Nat → Nat} {sg : SG} (hi : Inj ad) (p1 : Int) (hp1 : inR p1) {M : Mem} (hM : inM M) {r : Int} {M' : Mem} (hf : f_X10_bestPlan p1 M = some (r, M')) : MetI l D aC ad sg yX10_bestPlan cX10_bestPlan 2 (some .int) rm_X10_bestPlan 0 0 [.ref (ad 0), .int (i2 p1)] M r M' := by
  refine MetI.ofI (by decide +kernel) (nle rfl) hi hM (fun p e s m args below meth c Q H0 ls X hl w hret => ?_)
  exact b_X10_bestPlan_0 X  (fun r1 M1 H locs pc ls eo hP w dg => by cases eo; exact hret H locs pc ls hP w dg) p1 hp1 M hf hl w
set_option maxRecDepth 100000 in
set_option maxHeartbeats 4000000 in
theorem b_X10_child_0 (X : CX p s m args c cX10_child 4 RX10 D aC ad sg A H0) {o : Int × Mem} (HR : ∀ (r : Int) (M1 : Mem) (H : Heap) (locs : List Loc) (pc : Nat) (ls : Array Slot), o = (r, M1) → inR r → WS D aC ad A H0 M1 H locs → decode cX10_child pc = .ok (.ireturn, 1) → W p l e rm_X10_child s m args below meth c H locs 0 0 Q (F0 m pc ls [.int (i2 r)])) (p1 : Int) (hp1 : inR p1) (p2 : Int) (hp2 : inR p2) (p3 : Int) (hp3 : inR p3) (M : Mem) (hf : f_X10_child p1 p2 p3 M = some o) {H : Heap} {locs : List Loc} {ls : Array Slot} (hl : lv_has ls 4 [(0, .ref (ad 0)), (1, .int (i2 p1)), (2, .int (i2 p2)), (3, .int (i2 p3))]) (w : WS D aC ad A H0 M H locs) : W p l e rm_X10_child s m args below meth c H locs 0 0 Q (F0 m 0 ls []) := by
  have hx := X.1.1
  have hb := X.1.2.1
  unfold f_X10_child at hf
  refine lv_iload_n hx hb dX10_child_0 rfl (lv_at hl 1 rfl) ?_
  refine g_iconst X dX10_child_1 ?_
  refine g_iconst X dX10_child_2 ?_
  obtain ⟨r, hc, hf⟩ := obn_some hf
  refine g_csi (As := [.int (i2 p1), .int (i2 0), .int (i2 1)]) (rest := []) X w (k_X10_within X.2.2.1 p1 hp1 0 (inL rfl) 1 (inL rfl) w.2.2 hc) lk_X10_105 ⟨rfl, rfl⟩ ⟨nle rfl, nle rfl⟩ ⟨nle rfl, nle rfl⟩ hl.1 rfl (nle rfl) dX10_child_3 (fun hr H locs w => ?_)
  refine g_if_eq (tgt := 30) X hr dX10_child_6 (by decide) (fun cd => ?_) (fun cd => ?_)
  · replace hf := ite_t cd hf
    refine g_iconst X dX10_child_30 ?_
    exact HR (-1) M _ _ _ _ (Option.some.inj hf).symm (inL rfl) w dX10_child_31
  · replace hf := ite_f cd hf
    refine lv_iload_n hx hb dX10_child_9 rfl (lv_at hl 2 rfl) ?_
    refine g_iconst X dX10_child_10 ?_
    refine g_bipush X dX10_child_11 (by decide) ?_
    obtain ⟨r_2, hc, hf⟩ := obn_some hf
    refine g_csi (As := [.int (i2 p2), .int (i2 1), .int (i2 12)]) (rest := []) X w (k_X10_within X.2.2.1 p2 hp2 1 (inL rfl) 12 (inL rfl) w.2.2 hc) lk_X10_105 ⟨rfl, rfl⟩ ⟨nle rfl, nle rfl⟩ ⟨nle rfl, nle rfl⟩ hl.1 rfl (nle rfl) dX10_child_13 (fun hr_2 H locs w => ?_)
    refine g_if_eq (tgt := 30) X hr_2 dX10_child_16 (by decide) (fun cd_2 => ?_) (fun cd_2 => ?_)
    · replace hf := ite_t cd_2 hf
      refine g_iconst X dX10_child_30 ?_
      exact HR (-1) M _ _ _ _ (Option.some.inj hf).symm (inL rfl) w dX10_child_31
    · replace hf := ite_f cd_2 hf
      refine lv_iload_n hx hb dX10_child_19 rfl (lv_at hl 3 rfl) ?_
      refine g_iconst X dX10_child_20 ?_
      refine g_sipush X dX10_child_21 (by decide) ?_
      obtain ⟨r_3, hc, hf⟩ := obn_some hf
      refine g_csi (As := [.int (i2 p3), .int (i2 0), .int (i2 255)]) (rest := []) X w (k_X10_within X.2.2.1 p3 hp3 0 (inL rfl) 255 (inL rfl) w.2.2 hc) lk_X10_105 ⟨rfl, rfl⟩ ⟨nle rfl, nle rfl⟩ ⟨nle rfl, nle rfl⟩ hl.1 rfl (nle rfl) dX10_child_24 (fun hr_3 H locs w => ?_)
      refine g_if_ne (tgt := 32) X hr_3 dX10_child_27 (by decide) (fun cd_3 => ?_) (fun cd_3 => ?_)
      · replace hf := ite_f cd_3 hf
        refine lv_aload_n hx hb dX10_child_32 rfl (lv_at hl 0 rfl) ?_
        refine g_iconst X dX10_child_33 ?_
        obtain ⟨M_2, eM_2, hf⟩ := lt_some hf
        refine g_putz X w fp_X10_109 KD_0 FR_0_16 (Or.inl rfl) dX10_child_34 (fun H locs w_M_2 => ?_)
        rw [← eM_2] at w_M_2
        refine lv_aload_n hx hb dX10_child_37 rfl (lv_at hl 0 rfl) ?_
        refine g_getr X w_M_2 fg_X10_10 KD_0 FR_0_0 dX10_child_38 ?_
        refine lv_iload_n hx hb dX10_child_41 rfl (lv_at hl 1 rfl) ?_
        refine lv_iload_n hx hb dX10_child_42 rfl (lv_at hl 2 rfl) ?_
        refine lv_iload_n hx hb dX10_child_43 rfl (lv_at hl 3 rfl) ?_
        refine lv_aload_n hx hb dX10_child_44 rfl (lv_at hl 0 rfl) ?_
        refine g_geti X w_M_2 fg_X10_113 KD_0 FR_0_13 dX10_child_45 ?_
        obtain ⟨r_4, M_3, hc, hf⟩ := bnd_some hf
        refine g_cvi (As := [.int (i2 p1), .int (i2 p2), .int (i2 p3), .int (i2 (M_2 0 13))]) (rest := []) X w_M_2 (k_X1_admit X.2.2.1 p1 hp1 p2 hp2 p3 hp3 (M_2 0 13) (w_M_2.2.2 _ _) w_M_2.2.2 hc) lk_X10_116 cl_1 KD_3 ⟨rfl, rfl⟩ ⟨nle rfl, nle rfl⟩ ⟨nle rfl, nle rfl⟩ hl.1 rfl (nle rfl) dX10_child_48 (fun hr_4 H locs w_M_3 => ?_)
        exact HR r_4 M_3 _ _ _ _ (Option.some.inj hf).symm hr_4 w_M_3 dX10_child_51
      · replace hf := ite_t cd_3 hf
        refine g_iconst X dX10_child_30 ?_
        exact HR (-1) M _ _ _ _ (Option.some.inj hf).symm (inL rfl) w dX10_child_31
set_option maxRecDepth 100000 in
set_option maxHeartbeats 4000000 in
theorem k_X10_child {l : Launch} {D : va_G} {aC : Nat → ClassId} {ad : Nat → Nat} {sg : SG} (hi : Inj ad) (p1 : Int) (hp1 : inR p1) (p2 : Int) (hp2 : inR p2) (p3 : Int) (hp3 : inR p3) {M : Mem} (hM : inM M) {r : Int} {M' : Mem} (hf : f_X10_child p1 p2 p3 M = some (r, M')) : MetI l D aC ad sg yX10_child cX10_child 4 (some .int) rm_X10_child 0 0 [.ref (ad 0), .int (i2 p1), .int (i2 p2), .int (i2 p3)] M r M' := by
  refine MetI.ofI (by decide +kernel) (nle rfl) hi hM (fun p e s m args below meth c Q H0 ls X hl w hret => ?_)
  exact b_X10_child_0 X  (fun r1 M1 H locs pc ls eo hP w dg => by cases eo; exact hret H locs pc ls hP w dg) p1 hp1 p2 hp2 p3 hp3 M hf hl w
set_option maxRecDepth 100000 in
set_option maxHeartbeats 4000000 in
theorem b_X10_mark_0 (X : CX p s m args c cX10_mark 5 RX10 D aC ad sg A H0) {o : Int × Mem} (HR : ∀ (r : Int) (M1 : Mem) (H : Heap) (locs : List Loc) (pc : Nat) (ls : Array Slot), o = (r, M1) → isZ r → WS D aC ad A H0 M1 H locs → decode cX10_mark pc = .ok (.ireturn, 1) → W p l e rm_X10_mark s m args below meth c H locs 0 0 Q (F0 m pc ls [.int (i2 r)])) (p1 : Int) (hp1 : inR p1) (p2 : Int) (hp2 : inR p2) (p3 : Int) (hp3 : inR p3) (p4 : Int) (hp4 : inR p4) (M : Mem) (hf : f_X10_mark p1 p2 p3 p4 M = some o) {H : Heap} {locs : List Loc} {ls : Array Slot} (hl : lv_has ls 5 [(0, .ref (ad 0)), (1, .int (i2 p1)), (2, .int (i2 p2)), (3, .int (i2 p3)), (4, .int (i2 p4))]) (w : WS D aC ad A H0 M H locs) : W p l e rm_X10_mark s m args below meth c H locs 0 0 Q (F0 m 0 ls []) := by
  have hx := X.1.1
  have hb := X.1.2.1
  unfold f_X10_mark at hf
  refine lv_iload_n hx hb dX10_mark_0 rfl (lv_at hl 1 rfl) ?_
  refine g_iconst X dX10_mark_1 ?_
  refine g_iconst X dX10_mark_2 ?_
  obtain ⟨r, hc, hf⟩ := obn_some hf
  refine g_csi (As := [.int (i2 p1), .int (i2 0), .int (i2 3)]) (rest := []) X w (k_X10_within X.2.2.1 p1 hp1 0 (inL rfl) 3 (inL rfl) w.2.2 hc) lk_X10_105 ⟨rfl, rfl⟩ ⟨nle rfl, nle rfl⟩ ⟨nle rfl, nle rfl⟩ hl.1 rfl (nle rfl) dX10_mark_3 (fun hr H locs w => ?_)
  refine g_if_eq (tgt := 40) X hr dX10_mark_6 (by decide) (fun cd => ?_) (fun cd => ?_)
  · replace hf := ite_t cd hf
    refine g_iconst X dX10_mark_40 ?_
    exact HR 0 M _ _ _ _ (Option.some.inj hf).symm (Or.inl rfl) w dX10_mark_41
  · replace hf := ite_f cd hf
    refine lv_aload_n hx hb dX10_mark_9 rfl (lv_at hl 0 rfl) ?_
    refine g_getr X w fg_X10_10 KD_0 FR_0_0 dX10_mark_10 ?_
    refine lv_iload_n hx hb dX10_mark_13 rfl (lv_at hl 2 rfl) ?_
    obtain ⟨r_2, hc, hf⟩ := obn_some hf
    refine g_cvi (As := [.int (i2 p2)]) (rest := []) X w (k_X1_has X.2.2.1 p2 hp2 w.2.2 hc) lk_X10_120 cl_1 KD_3 ⟨rfl, rfl⟩ ⟨nle rfl, nle rfl⟩ ⟨nle rfl, nle rfl⟩ hl.1 rfl (nle rfl) dX10_mark_14 (fun hr_2 H locs w => ?_)
    refine g_if_eq (tgt := 40) X hr_2 dX10_mark_17 (by decide) (fun cd_2 => ?_) (fun cd_2 => ?_)
    · replace hf := ite_t cd_2 hf
      refine g_iconst X dX10_mark_40 ?_
      exact HR 0 M _ _ _ _ (Option.some.inj hf).symm (Or.inl rfl) w dX10_mark_41
    · replace hf := ite_f cd_2 hf
      refine lv_iload_n hx hb dX10_mark_20 rfl (lv_at hl 3 rfl) ?_
      refine g_iconst X dX10_mark_21 ?_
      refine g_iconst X dX10_mark_22 ?_
      obtain ⟨r_3, hc, hf⟩ := obn_some hf
      refine g_csi (As := [.int (i2 p3), .int (i2 0), .int (i2 1)]) (rest := []) X w (k_X10_within X.2.2.1 p3 hp3 0 (inL rfl) 1 (inL rfl) w.2.2 hc) lk_X10_105 ⟨rfl, rfl⟩ ⟨nle rfl, nle rfl⟩ ⟨nle rfl, nle rfl⟩ hl.1 rfl (nle rfl) dX10_mark_23 (fun hr_3 H locs w => ?_)
      refine g_if_eq (tgt := 40) X hr_3 dX10_mark_26 (by decide) (fun cd_3 => ?_) (fun cd_3 => ?_)
      · replace hf := ite_t cd_3 hf
        refine g_iconst X dX10_mark_40 ?_
        exact HR 0 M _ _ _ _ (Option.some.inj hf).symm (Or.inl rfl) w dX10_mark_41
      · replace hf := ite_f cd_3 hf
        refine lv_iload hx hb dX10_mark_29 (lv_at hl 4 rfl) ?_
        refine g_iconst X dX10_mark_31 ?_
        refine g_bipush X dX10_mark_32 (by decide) ?_
        obtain ⟨r_4, hc, hf⟩ := obn_some hf
        refine g_csi (As := [.int (i2 p4), .int (i2 0), .int (i2 100)]) (rest := []) X w (k_X10_within X.2.2.1 p4 hp4 0 (inL rfl) 100 (inL rfl) w.2.2 hc) lk_X10_105 ⟨rfl, rfl⟩ ⟨nle rfl, nle rfl⟩ ⟨nle rfl, nle rfl⟩ hl.1 rfl (nle rfl) dX10_mark_34 (fun hr_4 H locs w => ?_)
        refine g_if_ne (tgt := 42) X hr_4 dX10_mark_37 (by decide) (fun cd_4 => ?_) (fun cd_4 => ?_)
        · replace hf := ite_f cd_4 hf
          refine lv_aload_n hx hb dX10_mark_42 rfl (lv_at hl 0 rfl) ?_
          refine g_iconst X dX10_mark_43 ?_
          obtain ⟨M_2, eM_2, hf⟩ := lt_some hf
          refine g_putz X w fp_X10_109 KD_0 FR_0_16 (Or.inl rfl) dX10_mark_44 (fun H locs w_M_2 => ?_)
          rw [← eM_2] at w_M_2
          refine lv_aload_n hx hb dX10_mark_47 rfl (lv_at hl 0 rfl) ?_
          refine g_getr X w_M_2 fg_X10_19 KD_0 FR_0_1 dX10_mark_48 ?_
          refine lv_iload_n hx hb dX10_mark_51 rfl (lv_at hl 1 rfl) ?_
          refine lv_iload_n hx hb dX10_mark_52 rfl (lv_at hl 2 rfl) ?_
          refine lv_iload_n hx hb dX10_mark_53 rfl (lv_at hl 3 rfl) ?_
          refine lv_iload hx hb dX10_mark_54 (lv_at hl 4 rfl) ?_
          refine lv_aload_n hx hb dX10_mark_56 rfl (lv_at hl 0 rfl) ?_
          refine g_geti X w_M_2 fg_X10_113 KD_0 FR_0_13 dX10_mark_57 ?_
          obtain ⟨r_5, M_3, hc, hf⟩ := bnd_some hf
          refine g_cvi (As := [.int (i2 p1), .int (i2 p2), .int (i2 p3), .int (i2 p4), .int (i2 (M_2 0 13))]) (rest := []) X w_M_2 (k_X5_add X.2.2.1 p1 hp1 p2 hp2 p3 hp3 p4 hp4 (M_2 0 13) (w_M_2.2.2 _ _) w_M_2.2.2 hc) lk_X10_124 cl_5 KD_17 ⟨rfl, rfl⟩ ⟨nle rfl, nle rfl⟩ ⟨nle rfl, nle rfl⟩ hl.1 rfl (nle rfl) dX10_mark_60 (fun hr_5 H locs w_M_3 => ?_)
          obtain ⟨hz, hf⟩ := gd_some hf
          exact HR r_5 M_3 _ _ _ _ (Option.some.inj hf).symm hz w_M_3 dX10_mark_63
        · replace hf := ite_t cd_4 hf
          refine g_iconst X dX10_mark_40 ?_
          exact HR 0 M _ _ _ _ (Option.some.inj hf).symm (Or.inl rfl) w dX10_mark_41
set_option maxRecDepth 100000 in
set_option maxHeartbeats 4000000 in
theorem k_X10_mark {l : Launch} {D : va_G} {aC : Nat → ClassId} {ad : Nat → Nat} {sg : SG} (hi : Inj ad) (p1 : Int) (hp1 : inR p1) (p2 : Int) (hp2 : inR p2) (p3 : Int) (hp3 : inR p3) (p4 : Int) (hp4 : inR p4) {M : Mem} (hM : inM M) {r : Int} {M' : Mem} (hf : f_X10_mark p1 p2 p3 p4 M = some (r, M')) : MetI l D aC ad sg yX10_mark cX10_mark 5 (some .boolean) rm_X10_mark 0 0 [.ref (ad 0), .int (i2 p1), .int (i2 p2), .int (i2 p3), .int (i2 p4)] M r M' := by
  refine MetI.ofZ (by decide +kernel) (nle rfl) hi hM (fun p e s m args below meth c Q H0 ls X hl w hret => ?_)
  exact b_X10_mark_0 X  (fun r1 M1 H locs pc ls eo hP w dg => by cases eo; exact hret H locs pc ls hP w dg) p1 hp1 p2 hp2 p3 hp3 p4 hp4 M hf hl w
set_option maxRecDepth 100000 in
set_option maxHeartbeats 4000000 in
theorem b_X10_wish_0 (X : CX p s m args c cX10_wish 4 RX10 D aC ad sg A H0) {o : Int × Mem} (HR : ∀ (r : Int) (M1 : Mem) (H : Heap) (locs : List Loc) (pc : Nat) (ls : Array Slot), o = (r, M1) → isZ r → WS D aC ad A H0 M1 H locs → decode cX10_wish pc = .ok (.ireturn, 1) → W p l e rm_X10_wish s m args below meth c H locs 0 0 Q (F0 m pc ls [.int (i2 r)])) (p1 : Int) (hp1 : inR p1) (p2 : Int) (hp2 : inR p2) (p3 : Int) (hp3 : inR p3) (M : Mem) (hf : f_X10_wish p1 p2 p3 M = some o) {H : Heap} {locs : List Loc} {ls : Array Slot} (hl : lv_has ls 4 [(0, .ref (ad 0)), (1, .int (i2 p1)), (2, .int (i2 p2)), (3, .int (i2 p3))]) (w : WS D aC ad A H0 M H locs) : W p l e rm_X10_wish s m args below meth c H locs 0 0 Q (F0 m 0 ls []) := by
  have hx := X.1.1
  have hb := X.1.2.1
  unfold f_X10_wish at hf
  refine lv_aload_n hx hb dX10_wish_0 rfl (lv_at hl 0 rfl) ?_
  refine g_getr X w fg_X10_10 KD_0 FR_0_0 dX10_wish_1 ?_
  refine lv_iload_n hx hb dX10_wish_4 rfl (lv_at hl 1 rfl) ?_
  obtain ⟨r, hc, hf⟩ := obn_some hf
  refine g_cvi (As := [.int (i2 p1)]) (rest := []) X w (k_X1_has X.2.2.1 p1 hp1 w.2.2 hc) lk_X10_120 cl_1 KD_3 ⟨rfl, rfl⟩ ⟨nle rfl, nle rfl⟩ ⟨nle rfl, nle rfl⟩ hl.1 rfl (nle rfl) dX10_wish_5 (fun hr H locs w => ?_)
  refine g_if_eq (tgt := 20) X hr dX10_wish_8 (by decide) (fun cd => ?_) (fun cd => ?_)
  · replace hf := ite_t cd hf
    refine g_iconst X dX10_wish_20 ?_
    exact HR 0 M _ _ _ _ (Option.some.inj hf).symm (Or.inl rfl) w dX10_wish_21
  · replace hf := ite_f cd hf
    refine lv_iload_n hx hb dX10_wish_11 rfl (lv_at hl 2 rfl) ?_
    refine g_iconst X dX10_wish_12 ?_
    refine g_iconst X dX10_wish_13 ?_
    obtain ⟨r_2, hc, hf⟩ := obn_some hf
    refine g_csi (As := [.int (i2 p2), .int (i2 0), .int (i2 2)]) (rest := []) X w (k_X10_within X.2.2.1 p2 hp2 0 (inL rfl) 2 (inL rfl) w.2.2 hc) lk_X10_105 ⟨rfl, rfl⟩ ⟨nle rfl, nle rfl⟩ ⟨nle rfl, nle rfl⟩ hl.1 rfl (nle rfl) dX10_wish_14 (fun hr_2 H locs w => ?_)
    refine g_if_ne (tgt := 22) X hr_2 dX10_wish_17 (by decide) (fun cd_2 => ?_) (fun cd_2 => ?_)
    · replace hf := ite_f cd_2 hf
      refine lv_iload_n hx hb dX10_wish_22 rfl (lv_at hl 3 rfl) ?_
      refine g_iconst X dX10_wish_23 ?_
      refine g_icmp_eq (tgt := 41) X hp3 (inL rfl) dX10_wish_24 (by decide) (fun cd_3 => ?_) (fun cd_3 => ?_)
      · replace hf := ite_t cd_3 hf
        refine lv_aload_n hx hb dX10_wish_41 rfl (lv_at hl 0 rfl) ?_
        refine g_iconst X dX10_wish_42 ?_
        obtain ⟨M_2, eM_2, hf⟩ := lt_some hf
        refine g_putz X w fp_X10_109 KD_0 FR_0_16 (Or.inl rfl) dX10_wish_43 (fun H locs w_M_2 => ?_)
        rw [← eM_2] at w_M_2
        refine lv_aload_n hx hb dX10_wish_46 rfl (lv_at hl 0 rfl) ?_
        refine g_getr X w_M_2 fg_X10_10 KD_0 FR_0_0 dX10_wish_47 ?_
        refine g_getr X w_M_2 fg_X10_132 KD_3 FR_3_6 dX10_wish_50 ?_
        refine lv_iload_n hx hb dX10_wish_53 rfl (lv_at hl 1 rfl) ?_
        refine g_iconst X dX10_wish_54 ?_
        refine g_imul X dX10_wish_55 ?_
        refine lv_iload_n hx hb dX10_wish_56 rfl (lv_at hl 2 rfl) ?_
        refine g_iadd X dX10_wish_57 ?_
        refine lv_iload_n hx hb dX10_wish_58 rfl (lv_at hl 3 rfl) ?_
        obtain ⟨hg, hf⟩ := gd_some hf
        obtain ⟨M_3, eM_3, hf⟩ := lt_some hf
        refine g_iast X w_M_2 KD_9 (inR_wrap _) hg hp3 dX10_wish_59 (fun H locs w_M_3 => ?_)
        rw [← eM_3] at w_M_3
        refine g_iconst X dX10_wish_60 ?_
        exact HR 1 M_3 _ _ _ _ (Option.some.inj hf).symm (Or.inr rfl) w_M_3 dX10_wish_61
      · replace hf := ite_f cd_3 hf
        refine lv_aload_n hx hb dX10_wish_27 rfl (lv_at hl 0 rfl) ?_
        refine g_getr X w fg_X10_10 KD_0 FR_0_0 dX10_wish_28 ?_
        refine lv_iload_n hx hb dX10_wish_31 rfl (lv_at hl 1 rfl) ?_
        refine lv_iload_n hx hb dX10_wish_32 rfl (lv_at hl 3 rfl) ?_
        obtain ⟨r_3, hc, hf⟩ := obn_some hf
        refine g_cvi (As := [.int (i2 p1), .int (i2 p3)]) (rest := []) X w (k_X1_areTwo X.2.2.1 p1 hp1 p3 hp3 w.2.2 hc) lk_X10_128 cl_1 KD_3 ⟨rfl, rfl⟩ ⟨nle rfl, nle rfl⟩ ⟨nle rfl, nle rfl⟩ hl.1 rfl (nle rfl) dX10_wish_33 (fun hr_3 H locs w => ?_)
        refine g_if_ne (tgt := 41) X hr_3 dX10_wish_36 (by decide) (fun cd_4 => ?_) (fun cd_4 => ?_)
        · replace hf := ite_f cd_4 hf
          refine lv_aload_n hx hb dX10_wish_41 rfl (lv_at hl 0 rfl) ?_
          refine g_iconst X dX10_wish_42 ?_
          obtain ⟨M_4, eM_4, hf⟩ := lt_some hf
          refine g_putz X w fp_X10_109 KD_0 FR_0_16 (Or.inl rfl) dX10_wish_43 (fun H locs w_M_4 => ?_)
          rw [← eM_4] at w_M_4
          refine lv_aload_n hx hb dX10_wish_46 rfl (lv_at hl 0 rfl) ?_
          refine g_getr X w_M_4 fg_X10_10 KD_0 FR_0_0 dX10_wish_47 ?_
          refine g_getr X w_M_4 fg_X10_132 KD_3 FR_3_6 dX10_wish_50 ?_
          refine lv_iload_n hx hb dX10_wish_53 rfl (lv_at hl 1 rfl) ?_
          refine g_iconst X dX10_wish_54 ?_
          refine g_imul X dX10_wish_55 ?_
          refine lv_iload_n hx hb dX10_wish_56 rfl (lv_at hl 2 rfl) ?_
          refine g_iadd X dX10_wish_57 ?_
          refine lv_iload_n hx hb dX10_wish_58 rfl (lv_at hl 3 rfl) ?_
          obtain ⟨hg_2, hf⟩ := gd_some hf
          obtain ⟨M_5, eM_5, hf⟩ := lt_some hf
          refine g_iast X w_M_4 KD_9 (inR_wrap _) hg_2 hp3 dX10_wish_59 (fun H locs w_M_5 => ?_)
          rw [← eM_5] at w_M_5
          refine g_iconst X dX10_wish_60 ?_
          exact HR 1 M_5 _ _ _ _ (Option.some.inj hf).symm (Or.inr rfl) w_M_5 dX10_wish_61
        · replace hf := ite_t cd_4 hf
          refine g_iconst X dX10_wish_39 ?_
          exact HR 0 M _ _ _ _ (Option.some.inj hf).symm (Or.inl rfl) w dX10_wish_40
    · replace hf := ite_t cd_2 hf
      refine g_iconst X dX10_wish_20 ?_
      exact HR 0 M _ _ _ _ (Option.some.inj hf).symm (Or.inl rfl) w dX10_wish_21
set_option maxRecDepth 100000 in
set_option maxHeartbeats 4000000 in
theorem k_X10_wish {l : Launch} {D : va_G} {aC : Nat → ClassId} {ad : Nat → Nat} {sg : SG} (hi : Inj ad) (p1 : Int) (hp1 : inR p1) (p2 : Int) (hp2 : inR p2) (p3 : Int) (hp3 : inR p3) {M : Mem} (hM : inM M) {r : Int} {M' : Mem} (hf : f_X10_wish p1 p2 p3 M = some (r, M')) : MetI l D aC ad sg yX10_wish cX10_wish 4 (some .boolean) rm_X10_wish 0 0 [.ref (ad 0), .int (i2 p1), .int (i2 p2), .int (i2 p3)] M r M' := by
  refine MetI.ofZ (by decide +kernel) (nle rfl) hi hM (fun p e s m args below meth c Q H0 ls X hl w hret => ?_)
  exact b_X10_wish_0 X  (fun r1 M1 H locs pc ls eo hP w dg => by cases eo; exact hret H locs pc ls hP w dg) p1 hp1 p2 hp2 p3 hp3 M hf hl w
set_option maxRecDepth 100000 in
set_option maxHeartbeats 4000000 in
theorem b_X10_setBit_j15 (X : CX p s m args c cX10_setBit 5 RX10 D aC ad sg A H0) (p0 : Nat) (hp0 : KD[p0]? = some (.inr (0, aln p0))) {o : Int × Mem} (HR : ∀ (r : Int) (M1 : Mem) (H : Heap) (locs : List Loc) (pc : Nat) (ls : Array Slot), o = (r, M1) → isZ r → WS D aC ad A H0 M1 H locs → decode cX10_setBit pc = .ok (.ireturn, 1) → W p l e rm_X10_setBit s m args below meth c H locs 0 0 Q (F0 m pc ls [.int (i2 r)])) (v1 : Int) (hv1 : inR v1) (v2 : Int) (hv2 : inR v2) (v3 : Int) (hv3 : inR v3) (s0 : Int) (hs0 : inR s0) (M : Mem) (hf : f_X10_setBit_j15 p0 v1 v2 v3 s0 M = some o) {H : Heap} {locs : List Loc} {ls : Array Slot} (hl : lv_has ls 5 [(0, .ref (ad p0)), (1, .int (i2 v1)), (2, .int (i2 v2)), (3, .int (i2 v3))]) (w : WS D aC ad A H0 M H locs) : W p l e rm_X10_setBit s m args below meth c H locs 0 0 Q (F0 m 15 ls [.int (i2 s0)]) := by
  have hx := X.1.1
  have hb := X.1.2.1
  unfold f_X10_setBit_j15 at hf
  refine g_ist (v := s0) (lv' := [(4, .int (i2 s0)), (0, .ref (ad p0)), (1, .int (i2 v1)), (2, .int (i2 v2)), (3, .int (i2 v3))]) X rfl dX10_setBit_15 hl (by decide) rfl (fun ls hl => ?_)
  refine lv_iload hx hb dX10_setBit_17 (lv_at hl 0 rfl) ?_
  refine lv_iload_n hx hb dX10_setBit_19 rfl (lv_at hl 4 rfl) ?_
  refine g_icmp_ne (tgt := 25) X hs0 hv3 dX10_setBit_20 (by decide) (fun cd => ?_) (fun cd => ?_)
  · replace hf := ite_f cd hf
    refine lv_aload_n hx hb dX10_setBit_25 rfl (lv_at hl 1 rfl) ?_
    refine lv_iload_n hx hb dX10_setBit_26 rfl (lv_at hl 2 rfl) ?_
    refine lv_dup2_11 hx hb dX10_setBit_27 rfl rfl ?_
    obtain ⟨hg, hf⟩ := gd_some hf
    refine g_iald X w hp0 hv1 hg dX10_setBit_28 ?_
    refine g_iconst X dX10_setBit_29 ?_
    refine lv_iload_n hx hb dX10_setBit_30 rfl (lv_at hl 3 rfl) ?_
    refine g_ishl X dX10_setBit_31 ?_
    refine g_ixor X dX10_setBit_32 ?_
    obtain ⟨hg_2, hf⟩ := gd_some hf
    obtain ⟨M_2, eM_2, hf⟩ := lt_some hf
    refine g_iast X w hp0 hv1 hg_2 (inR_toInt _) dX10_setBit_33 (fun H locs w_M_2 => ?_)
    rw [← eM_2] at w_M_2
    refine g_iconst X dX10_setBit_34 ?_
    exact HR 1 M_2 _ _ _ _ (Option.some.inj hf).symm (Or.inr rfl) w_M_2 dX10_setBit_35
  · replace hf := ite_t cd hf
    refine g_iconst X dX10_setBit_23 ?_
    exact HR 0 M _ _ _ _ (Option.some.inj hf).symm (Or.inl rfl) w dX10_setBit_24
set_option maxRecDepth 100000 in
set_option maxHeartbeats 4000000 in
theorem b_X10_setBit_0 (X : CX p s m args c cX10_setBit 5 RX10 D aC ad sg A H0) (p0 : Nat) (hp0 : KD[p0]? = some (.inr (0, aln p0))) {o : Int × Mem} (HR : ∀ (r : Int) (M1 : Mem) (H : Heap) (locs : List Loc) (pc : Nat) (ls : Array Slot), o = (r, M1) → isZ r → WS D aC ad A H0 M1 H locs → decode cX10_setBit pc = .ok (.ireturn, 1) → W p l e rm_X10_setBit s m args below meth c H locs 0 0 Q (F0 m pc ls [.int (i2 r)])) (p1 : Int) (hp1 : inR p1) (p2 : Int) (hp2 : inR p2) (p3 : Int) (hp3 : inR p3) (M : Mem) (hf : f_X10_setBit p0 p1 p2 p3 M = some o) {H : Heap} {locs : List Loc} {ls : Array Slot} (hl : lv_has ls 5 [(0, .ref (ad p0)), (1, .int (i2 p1)), (2, .int (i2 p2)), (3, .int (i2 p3))]) (w : WS D aC ad A H0 M H locs) : W p l e rm_X10_setBit s m args below meth c H locs 0 0 Q (F0 m 0 ls []) := by
  have hx := X.1.1
  have hb := X.1.2.1
  unfold f_X10_setBit at hf
  refine lv_aload_n hx hb dX10_setBit_0 rfl (lv_at hl 0 rfl) ?_
  refine lv_iload_n hx hb dX10_setBit_1 rfl (lv_at hl 1 rfl) ?_
  obtain ⟨hg, hf⟩ := gd_some hf
  refine g_iald X w hp0 hp1 hg dX10_setBit_2 ?_
  refine lv_iload_n hx hb dX10_setBit_3 rfl (lv_at hl 2 rfl) ?_
  refine g_ishr X dX10_setBit_4 ?_
  refine g_iconst X dX10_setBit_5 ?_
  refine g_iand X dX10_setBit_6 ?_
  refine g_if_eq (tgt := 14) X (inR_toInt _) dX10_setBit_7 (by decide) (fun cd => ?_) (fun cd => ?_)
  · replace hf := ite_t cd hf
    refine g_iconst X dX10_setBit_14 ?_
    exact b_X10_setBit_j15 X p0 hp0 HR p1 hp1 p2 hp2 p3 hp3 0 (inL rfl) M hf hl w
  · replace hf := ite_f cd hf
    refine g_iconst X dX10_setBit_10 ?_
    refine lv_goto (tgt := 15) hx hb dX10_setBit_11 (by decide) ?_
    exact b_X10_setBit_j15 X p0 hp0 HR p1 hp1 p2 hp2 p3 hp3 1 (inL rfl) M hf hl w
set_option maxRecDepth 100000 in
set_option maxHeartbeats 4000000 in
theorem k_X10_setBit {l : Launch} {D : va_G} {aC : Nat → ClassId} {ad : Nat → Nat} {sg : SG} (hi : Inj ad) (p0 : Nat) (hp0 : KD[p0]? = some (.inr (0, aln p0))) (p1 : Int) (hp1 : inR p1) (p2 : Int) (hp2 : inR p2) (p3 : Int) (hp3 : inR p3) {M : Mem} (hM : inM M) {r : Int} {M' : Mem} (hf : f_X10_setBit p0 p1 p2 p3 M = some (r, M')) : MetI l D aC ad sg yX10_setBit cX10_setBit 5 (some .boolean) rm_X10_setBit 0 0 [.ref (ad p0), .int (i2 p1), .int (i2 p2), .int (i2 p3)] M r M' := by
  refine MetI.ofZ (by decide +kernel) (nle rfl) hi hM (fun p e s m args below meth c Q H0 ls X hl w hret => ?_)
  exact b_X10_setBit_0 X p0 hp0 (fun r1 M1 H locs pc ls eo hP w dg => by cases eo; exact hret H locs pc ls hP w dg) p1 hp1 p2 hp2 p3 hp3 M hf hl w
set_option maxRecDepth 100000 in
set_option maxHeartbeats 4000000 in
theorem b_X10_setPair_0 (X : CX p s m args c cX10_setPair 4 RX10 D aC ad sg A H0) (p0 : Nat) (hp0 : KD[p0]? = some (.inr (0, aln p0))) {o : Int × Mem} (HR : ∀ (r : Int) (M1 : Mem) (H : Heap) (locs : List Loc) (pc : Nat) (ls : Array Slot), o = (r, M1) → isZ r → WS D aC ad A H0 M1 H locs → decode cX10_setPair pc = .ok (.ireturn, 1) → W p l e rm_X10_setPair s m args below meth c H locs 0 0 Q (F0 m pc ls [.int (i2 r)])) (p1 : Int) (hp1 : inR p1) (p2 : Int) (hp2 : inR p2) (p3 : Int) (hp3 : inR p3) (M : Mem) (hf : f_X10_setPair p0 p1 p2 p3 M = some o) {H : Heap} {locs : List Loc} {ls : Array Slot} (hl : lv_has ls 4 [(0, .ref (ad p0)), (1, .int (i2 p1)), (2, .int (i2 p2)), (3, .int (i2 p3))]) (w : WS D aC ad A H0 M H locs) : W p l e rm_X10_setPair s m args below meth c H locs 0 0 Q (F0 m 0 ls []) := by
  have hx := X.1.1
  have hb := X.1.2.1
  unfold f_X10_setPair at hf
  refine lv_aload_n hx hb dX10_setPair_0 rfl (lv_at hl 0 rfl) ?_
  refine lv_iload_n hx hb dX10_setPair_1 rfl (lv_at hl 1 rfl) ?_
  refine lv_iload_n hx hb dX10_setPair_2 rfl (lv_at hl 2 rfl) ?_
  refine lv_iload_n hx hb dX10_setPair_3 rfl (lv_at hl 3 rfl) ?_
  obtain ⟨r, M_2, hc, hf⟩ := bnd_some hf
  refine g_csi (As := [.ref (ad p0), .int (i2 p1), .int (i2 p2), .int (i2 p3)]) (rest := []) X w (k_X10_setBit X.2.2.1 p0 hp0 p1 hp1 p2 hp2 p3 hp3 w.2.2 hc) lk_X10_148 ⟨rfl, rfl⟩ ⟨nle rfl, nle rfl⟩ ⟨nle rfl, nle rfl⟩ hl.1 rfl (nle rfl) dX10_setPair_4 (fun hr H locs w_M_2 => ?_)
  refine g_if_eq (tgt := 24) X hr dX10_setPair_7 (by decide) (fun cd => ?_) (fun cd => ?_)
  · replace hf := ite_t cd hf
    refine g_iconst X dX10_setPair_24 ?_
    exact HR 0 M_2 _ _ _ _ (Option.some.inj hf).symm (Or.inl rfl) w_M_2 dX10_setPair_25
  · replace hf := ite_f cd hf
    refine lv_aload_n hx hb dX10_setPair_10 rfl (lv_at hl 0 rfl) ?_
    refine lv_iload_n hx hb dX10_setPair_11 rfl (lv_at hl 2 rfl) ?_
    refine lv_iload_n hx hb dX10_setPair_12 rfl (lv_at hl 1 rfl) ?_
    refine lv_iload_n hx hb dX10_setPair_13 rfl (lv_at hl 3 rfl) ?_
    obtain ⟨r_2, M_3, hc, hf⟩ := bnd_some hf
    refine g_csi (As := [.ref (ad p0), .int (i2 p2), .int (i2 p1), .int (i2 p3)]) (rest := []) X w_M_2 (k_X10_setBit X.2.2.1 p0 hp0 p2 hp2 p1 hp1 p3 hp3 w_M_2.2.2 hc) lk_X10_148 ⟨rfl, rfl⟩ ⟨nle rfl, nle rfl⟩ ⟨nle rfl, nle rfl⟩ hl.1 rfl (nle rfl) dX10_setPair_14 (fun hr_2 H locs w_M_3 => ?_)
    refine g_if_eq (tgt := 24) X hr_2 dX10_setPair_17 (by decide) (fun cd_2 => ?_) (fun cd_2 => ?_)
    · replace hf := ite_t cd_2 hf
      refine g_iconst X dX10_setPair_24 ?_
      exact HR 0 M_3 _ _ _ _ (Option.some.inj hf).symm (Or.inl rfl) w_M_3 dX10_setPair_25
    · replace hf := ite_f cd_2 hf
      refine g_iconst X dX10_setPair_20 ?_
      refine lv_goto (tgt := 25) hx hb dX10_setPair_21 (by decide) ?_
      exact HR 1 M_3 _ _ _ _ (Option.some.inj hf).symm (Or.inr rfl) w_M_3 dX10_setPair_25
set_option maxRecDepth 100000 in
set_option maxHeartbeats 4000000 in
theorem k_X10_setPair {l : Launch} {D : va_G} {aC : Nat → ClassId} {ad : Nat → Nat} {sg : SG} (hi : Inj ad) (p0 : Nat) (hp0 : KD[p0]? = some (.inr (0, aln p0))) (p1 : Int) (hp1 : inR p1) (p2 : Int) (hp2 : inR p2) (p3 : Int) (hp3 : inR p3) {M : Mem} (hM : inM M) {r : Int} {M' : Mem} (hf : f_X10_setPair p0 p1 p2 p3 M = some (r, M')) : MetI l D aC ad sg yX10_setPair cX10_setPair 4 (some .boolean) rm_X10_setPair 0 0 [.ref (ad p0), .int (i2 p1), .int (i2 p2), .int (i2 p3)] M r M' := by
  refine MetI.ofZ (by decide +kernel) (nle rfl) hi hM (fun p e s m args below meth c Q H0 ls X hl w hret => ?_)
  exact b_X10_setPair_0 X p0 hp0 (fun r1 M1 H locs pc ls eo hP w dg => by cases eo; exact hret H locs pc ls hP w dg) p1 hp1 p2 hp2 p3 hp3 M hf hl w
set_option maxRecDepth 100000 in
set_option maxHeartbeats 4000000 in
theorem b_X10_bar_0 (X : CX p s m args c cX10_bar 4 RX10 D aC ad sg A H0) {o : Int × Mem} (HR : ∀ (r : Int) (M1 : Mem) (H : Heap) (locs : List Loc) (pc : Nat) (ls : Array Slot), o = (r, M1) → isZ r → WS D aC ad A H0 M1 H locs → decode cX10_bar pc = .ok (.ireturn, 1) → W p l e rm_X10_bar s m args below meth c H locs 0 0 Q (F0 m pc ls [.int (i2 r)])) (p1 : Int) (hp1 : inR p1) (p2 : Int) (hp2 : inR p2) (p3 : Int) (hp3 : inR p3) (M : Mem) (hf : f_X10_bar p1 p2 p3 M = some o) {H : Heap} {locs : List Loc} {ls : Array Slot} (hl : lv_has ls 4 [(0, .ref (ad 0)), (1, .int (i2 p1)), (2, .int (i2 p2)), (3, .int (i2 p3))]) (w : WS D aC ad A H0 M H locs) : W p l e rm_X10_bar s m args below meth c H locs 0 0 Q (F0 m 0 ls []) := by
  have hx := X.1.1
  have hb := X.1.2.1
  unfold f_X10_bar at hf
  refine lv_aload_n hx hb dX10_bar_0 rfl (lv_at hl 0 rfl) ?_
  refine g_iconst X dX10_bar_1 ?_
  obtain ⟨M_2, eM_2, hf⟩ := lt_some hf
  refine g_putz X w fp_X10_109 KD_0 FR_0_16 (Or.inl rfl) dX10_bar_2 (fun H locs w_M_2 => ?_)
  rw [← eM_2] at w_M_2
  refine lv_aload_n hx hb dX10_bar_5 rfl (lv_at hl 0 rfl) ?_
  refine g_getr X w_M_2 fg_X10_10 KD_0 FR_0_0 dX10_bar_6 ?_
  refine lv_iload_n hx hb dX10_bar_9 rfl (lv_at hl 1 rfl) ?_
  refine lv_iload_n hx hb dX10_bar_10 rfl (lv_at hl 2 rfl) ?_
  obtain ⟨r, hc, hf⟩ := obn_some hf
  refine g_cvi (As := [.int (i2 p1), .int (i2 p2)]) (rest := []) X w_M_2 (k_X1_areTwo X.2.2.1 p1 hp1 p2 hp2 w_M_2.2.2 hc) lk_X10_128 cl_1 KD_3 ⟨rfl, rfl⟩ ⟨nle rfl, nle rfl⟩ ⟨nle rfl, nle rfl⟩ hl.1 rfl (nle rfl) dX10_bar_11 (fun hr H locs w_M_2 => ?_)
  refine g_if_eq (tgt := 37) X hr dX10_bar_14 (by decide) (fun cd => ?_) (fun cd => ?_)
  · replace hf := ite_t cd hf
    refine g_iconst X dX10_bar_37 ?_
    exact HR 0 M_2 _ _ _ _ (Option.some.inj hf).symm (Or.inl rfl) w_M_2 dX10_bar_38
  · replace hf := ite_f cd hf
    refine lv_aload_n hx hb dX10_bar_17 rfl (lv_at hl 0 rfl) ?_
    refine g_getr X w_M_2 fg_X10_10 KD_0 FR_0_0 dX10_bar_18 ?_
    refine g_getr X w_M_2 fg_X10_135 KD_3 FR_3_7 dX10_bar_21 ?_
    refine lv_iload_n hx hb dX10_bar_24 rfl (lv_at hl 1 rfl) ?_
    refine lv_iload_n hx hb dX10_bar_25 rfl (lv_at hl 2 rfl) ?_
    refine lv_iload_n hx hb dX10_bar_26 rfl (lv_at hl 3 rfl) ?_
    obtain ⟨r_2, M_3, hc, hf⟩ := bnd_some hf
    refine g_csi (As := [.ref (ad 10), .int (i2 p1), .int (i2 p2), .int (i2 p3)]) (rest := []) X w_M_2 (k_X10_setPair X.2.2.1 10 KA_10 p1 hp1 p2 hp2 p3 hp3 w_M_2.2.2 hc) lk_X10_138 ⟨rfl, rfl⟩ ⟨nle rfl, nle rfl⟩ ⟨nle rfl, nle rfl⟩ hl.1 rfl (nle rfl) dX10_bar_27 (fun hr_2 H locs w_M_3 => ?_)
    refine g_if_eq (tgt := 37) X hr_2 dX10_bar_30 (by decide) (fun cd_2 => ?_) (fun cd_2 => ?_)
    · replace hf := ite_t cd_2 hf
      refine g_iconst X dX10_bar_37 ?_
      exact HR 0 M_3 _ _ _ _ (Option.some.inj hf).symm (Or.inl rfl) w_M_3 dX10_bar_38
    · replace hf := ite_f cd_2 hf
      refine g_iconst X dX10_bar_33 ?_
      refine lv_goto (tgt := 38) hx hb dX10_bar_34 (by decide) ?_
      exact HR 1 M_3 _ _ _ _ (Option.some.inj hf).symm (Or.inr rfl) w_M_3 dX10_bar_38
set_option maxRecDepth 100000 in
set_option maxHeartbeats 4000000 in
theorem k_X10_bar {l : Launch} {D : va_G} {aC : Nat → ClassId} {ad : Nat → Nat} {sg : SG} (hi : Inj ad) (p1 : Int) (hp1 : inR p1) (p2 : Int) (hp2 : inR p2) (p3 : Int) (hp3 : inR p3) {M : Mem} (hM : inM M) {r : Int} {M' : Mem} (hf : f_X10_bar p1 p2 p3 M = some (r, M')) : MetI l D aC ad sg yX10_bar cX10_bar 4 (some .boolean) rm_X10_bar 0 0 [.ref (ad 0), .int (i2 p1), .int (i2 p2), .int (i2 p3)] M r M' := by
  refine MetI.ofZ (by decide +kernel) (nle rfl) hi hM (fun p e s m args below meth c Q H0 ls X hl w hret => ?_)
  exact b_X10_bar_0 X  (fun r1 M1 H locs pc ls eo hP w dg => by cases eo; exact hret H locs pc ls hP w dg) p1 hp1 p2 hp2 p3 hp3 M hf hl w
set_option maxRecDepth 100000 in
set_option maxHeartbeats 4000000 in
theorem b_X10_twins_0 (X : CX p s m args c cX10_twins 4 RX10 D aC ad sg A H0) {o : Int × Mem} (HR : ∀ (r : Int) (M1 : Mem) (H : Heap) (locs : List Loc) (pc : Nat) (ls : Array Slot), o = (r, M1) → isZ r → WS D aC ad A H0 M1 H locs → decode cX10_twins pc = .ok (.ireturn, 1) → W p l e rm_X10_twins s m args below meth c H locs 0 0 Q (F0 m pc ls [.int (i2 r)])) (p1 : Int) (hp1 : inR p1) (p2 : Int) (hp2 : inR p2) (p3 : Int) (hp3 : inR p3) (M : Mem) (hf : f_X10_twins p1 p2 p3 M = some o) {H : Heap} {locs : List Loc} {ls : Array Slot} (hl : lv_has ls 4 [(0, .ref (ad 0)), (1, .int (i2 p1)), (2, .int (i2 p2)), (3, .int (i2 p3))]) (w : WS D aC ad A H0 M H locs) : W p l e rm_X10_twins s m args below meth c H locs 0 0 Q (F0 m 0 ls []) := by
  have hx := X.1.1
  have hb := X.1.2.1
  unfold f_X10_twins at hf
  refine lv_aload_n hx hb dX10_twins_0 rfl (lv_at hl 0 rfl) ?_
  refine g_iconst X dX10_twins_1 ?_
  obtain ⟨M_2, eM_2, hf⟩ := lt_some hf
  refine g_putz X w fp_X10_109 KD_0 FR_0_16 (Or.inl rfl) dX10_twins_2 (fun H locs w_M_2 => ?_)
  rw [← eM_2] at w_M_2
  refine lv_aload_n hx hb dX10_twins_5 rfl (lv_at hl 0 rfl) ?_
  refine g_getr X w_M_2 fg_X10_10 KD_0 FR_0_0 dX10_twins_6 ?_
  refine lv_iload_n hx hb dX10_twins_9 rfl (lv_at hl 1 rfl) ?_
  refine lv_iload_n hx hb dX10_twins_10 rfl (lv_at hl 2 rfl) ?_
  obtain ⟨r, hc, hf⟩ := obn_some hf
  refine g_cvi (As := [.int (i2 p1), .int (i2 p2)]) (rest := []) X w_M_2 (k_X1_areTwo X.2.2.1 p1 hp1 p2 hp2 w_M_2.2.2 hc) lk_X10_128 cl_1 KD_3 ⟨rfl, rfl⟩ ⟨nle rfl, nle rfl⟩ ⟨nle rfl, nle rfl⟩ hl.1 rfl (nle rfl) dX10_twins_11 (fun hr H locs w_M_2 => ?_)
  refine g_if_eq (tgt := 37) X hr dX10_twins_14 (by decide) (fun cd => ?_) (fun cd => ?_)
  · replace hf := ite_t cd hf
    refine g_iconst X dX10_twins_37 ?_
    exact HR 0 M_2 _ _ _ _ (Option.some.inj hf).symm (Or.inl rfl) w_M_2 dX10_twins_38
  · replace hf := ite_f cd hf
    refine lv_aload_n hx hb dX10_twins_17 rfl (lv_at hl 0 rfl) ?_
    refine g_getr X w_M_2 fg_X10_10 KD_0 FR_0_0 dX10_twins_18 ?_
    refine g_getr X w_M_2 fg_X10_142 KD_3 FR_3_8 dX10_twins_21 ?_
    refine lv_iload_n hx hb dX10_twins_24 rfl (lv_at hl 1 rfl) ?_
    refine lv_iload_n hx hb dX10_twins_25 rfl (lv_at hl 2 rfl) ?_
    refine lv_iload_n hx hb dX10_twins_26 rfl (lv_at hl 3 rfl) ?_
    obtain ⟨r_2, M_3, hc, hf⟩ := bnd_some hf
    refine g_csi (As := [.ref (ad 11), .int (i2 p1), .int (i2 p2), .int (i2 p3)]) (rest := []) X w_M_2 (k_X10_setPair X.2.2.1 11 KA_11 p1 hp1 p2 hp2 p3 hp3 w_M_2.2.2 hc) lk_X10_138 ⟨rfl, rfl⟩ ⟨nle rfl, nle rfl⟩ ⟨nle rfl, nle rfl⟩ hl.1 rfl (nle rfl) dX10_twins_27 (fun hr_2 H locs w_M_3 => ?_)
    refine g_if_eq (tgt := 37) X hr_2 dX10_twins_30 (by decide) (fun cd_2 => ?_) (fun cd_2 => ?_)
    · replace hf := ite_t cd_2 hf
      refine g_iconst X dX10_twins_37 ?_
      exact HR 0 M_3 _ _ _ _ (Option.some.inj hf).symm (Or.inl rfl) w_M_3 dX10_twins_38
    · replace hf := ite_f cd_2 hf
      refine g_iconst X dX10_twins_33 ?_
      refine lv_goto (tgt := 38) hx hb dX10_twins_34 (by decide) ?_
      exact HR 1 M_3 _ _ _ _ (Option.some.inj hf).symm (Or.inr rfl) w_M_3 dX10_twins_38
set_option maxRecDepth 100000 in
set_option maxHeartbeats 4000000 in
theorem k_X10_twins {l : Launch} {D : va_G} {aC : Nat → ClassId} {ad : Nat → Nat} {sg : SG} (hi : Inj ad) (p1 : Int) (hp1 : inR p1) (p2 : Int) (hp2 : inR p2) (p3 : Int) (hp3 : inR p3) {M : Mem} (hM : inM M) {r : Int} {M' : Mem} (hf : f_X10_twins p1 p2 p3 M = some (r, M')) : MetI l D aC ad sg yX10_twins cX10_twins 4 (some .boolean) rm_X10_twins 0 0 [.ref (ad 0), .int (i2 p1), .int (i2 p2), .int (i2 p3)] M r M' := by
  refine MetI.ofZ (by decide +kernel) (nle rfl) hi hM (fun p e s m args below meth c Q H0 ls X hl w hret => ?_)
  exact b_X10_twins_0 X  (fun r1 M1 H locs pc ls eo hP w dg => by cases eo; exact hret H locs pc ls hP w dg) p1 hp1 p2 hp2 p3 hp3 M hf hl w
set_option maxRecDepth 100000 in
set_option maxHeartbeats 4000000 in
theorem b_X10_not_0 (X : CX p s m args c cX10_not 4 RX10 D aC ad sg A H0) {o : Int × Mem} (HR : ∀ (r : Int) (M1 : Mem) (H : Heap) (locs : List Loc) (pc : Nat) (ls : Array Slot), o = (r, M1) → isZ r → WS D aC ad A H0 M1 H locs → decode cX10_not pc = .ok (.ireturn, 1) → W p l e rm_X10_not s m args below meth c H locs 0 0 Q (F0 m pc ls [.int (i2 r)])) (p1 : Int) (hp1 : inR p1) (p2 : Int) (hp2 : inR p2) (p3 : Int) (hp3 : inR p3) (M : Mem) (hf : f_X10_not p1 p2 p3 M = some o) {H : Heap} {locs : List Loc} {ls : Array Slot} (hl : lv_has ls 4 [(0, .ref (ad 0)), (1, .int (i2 p1)), (2, .int (i2 p2)), (3, .int (i2 p3))]) (w : WS D aC ad A H0 M H locs) : W p l e rm_X10_not s m args below meth c H locs 0 0 Q (F0 m 0 ls []) := by
  have hx := X.1.1
  have hb := X.1.2.1
  unfold f_X10_not at hf
  refine lv_aload_n hx hb dX10_not_0 rfl (lv_at hl 0 rfl) ?_
  refine g_getr X w fg_X10_10 KD_0 FR_0_0 dX10_not_1 ?_
  refine lv_iload_n hx hb dX10_not_4 rfl (lv_at hl 1 rfl) ?_
  obtain ⟨r, hc, hf⟩ := obn_some hf
  refine g_cvi (As := [.int (i2 p1)]) (rest := []) X w (k_X1_has X.2.2.1 p1 hp1 w.2.2 hc) lk_X10_120 cl_1 KD_3 ⟨rfl, rfl⟩ ⟨nle rfl, nle rfl⟩ ⟨nle rfl, nle rfl⟩ hl.1 rfl (nle rfl) dX10_not_5 (fun hr H locs w => ?_)
  refine g_if_eq (tgt := 20) X hr dX10_not_8 (by decide) (fun cd => ?_) (fun cd => ?_)
  · replace hf := ite_t cd hf
    refine g_iconst X dX10_not_20 ?_
    exact HR 0 M _ _ _ _ (Option.some.inj hf).symm (Or.inl rfl) w dX10_not_21
  · replace hf := ite_f cd hf
    refine lv_iload_n hx hb dX10_not_11 rfl (lv_at hl 2 rfl) ?_
    refine g_iconst X dX10_not_12 ?_
    refine g_iconst X dX10_not_13 ?_
    obtain ⟨r_2, hc, hf⟩ := obn_some hf
    refine g_csi (As := [.int (i2 p2), .int (i2 0), .int (i2 2)]) (rest := []) X w (k_X10_within X.2.2.1 p2 hp2 0 (inL rfl) 2 (inL rfl) w.2.2 hc) lk_X10_105 ⟨rfl, rfl⟩ ⟨nle rfl, nle rfl⟩ ⟨nle rfl, nle rfl⟩ hl.1 rfl (nle rfl) dX10_not_14 (fun hr_2 H locs w => ?_)
    refine g_if_ne (tgt := 22) X hr_2 dX10_not_17 (by decide) (fun cd_2 => ?_) (fun cd_2 => ?_)
    · replace hf := ite_f cd_2 hf
      refine lv_aload_n hx hb dX10_not_22 rfl (lv_at hl 0 rfl) ?_
      refine g_iconst X dX10_not_23 ?_
      obtain ⟨M_2, eM_2, hf⟩ := lt_some hf
      refine g_putz X w fp_X10_109 KD_0 FR_0_16 (Or.inl rfl) dX10_not_24 (fun H locs w_M_2 => ?_)
      rw [← eM_2] at w_M_2
      refine lv_aload_n hx hb dX10_not_27 rfl (lv_at hl 0 rfl) ?_
      refine g_getr X w_M_2 fg_X10_10 KD_0 FR_0_0 dX10_not_28 ?_
      refine g_getr X w_M_2 fg_X10_145 KD_3 FR_3_9 dX10_not_31 ?_
      refine lv_iload_n hx hb dX10_not_34 rfl (lv_at hl 2 rfl) ?_
      refine lv_iload_n hx hb dX10_not_35 rfl (lv_at hl 1 rfl) ?_
      refine lv_iload_n hx hb dX10_not_36 rfl (lv_at hl 3 rfl) ?_
      obtain ⟨r_3, M_3, hc, hf⟩ := bnd_some hf
      refine g_csi (As := [.ref (ad 12), .int (i2 p2), .int (i2 p1), .int (i2 p3)]) (rest := []) X w_M_2 (k_X10_setBit X.2.2.1 12 KA_12 p2 hp2 p1 hp1 p3 hp3 w_M_2.2.2 hc) lk_X10_148 ⟨rfl, rfl⟩ ⟨nle rfl, nle rfl⟩ ⟨nle rfl, nle rfl⟩ hl.1 rfl (nle rfl) dX10_not_37 (fun hr_3 H locs w_M_3 => ?_)
      obtain ⟨hz, hf⟩ := gd_some hf
      exact HR r_3 M_3 _ _ _ _ (Option.some.inj hf).symm hz w_M_3 dX10_not_40
    · replace hf := ite_t cd_2 hf
      refine g_iconst X dX10_not_20 ?_
      exact HR 0 M _ _ _ _ (Option.some.inj hf).symm (Or.inl rfl) w dX10_not_21
set_option maxRecDepth 100000 in
set_option maxHeartbeats 4000000 in
theorem k_X10_not {l : Launch} {D : va_G} {aC : Nat → ClassId} {ad : Nat → Nat} {sg : SG} (hi : Inj ad) (p1 : Int) (hp1 : inR p1) (p2 : Int) (hp2 : inR p2) (p3 : Int) (hp3 : inR p3) {M : Mem} (hM : inM M) {r : Int} {M' : Mem} (hf : f_X10_not p1 p2 p3 M = some (r, M')) : MetI l D aC ad sg yX10_not cX10_not 4 (some .boolean) rm_X10_not 0 0 [.ref (ad 0), .int (i2 p1), .int (i2 p2), .int (i2 p3)] M r M' := by
  refine MetI.ofZ (by decide +kernel) (nle rfl) hi hM (fun p e s m args below meth c Q H0 ls X hl w hret => ?_)
  exact b_X10_not_0 X  (fun r1 M1 H locs pc ls eo hP w dg => by cases eo; exact hret H locs pc ls hP w dg) p1 hp1 p2 hp2 p3 hp3 M hf hl w
set_option maxRecDepth 100000 in
set_option maxHeartbeats 4000000 in
theorem b_X10_classes_s13 (X : CX p s m args c cX10_classes 3 RX10 D aC ad sg A H0) (v1 : Int) (hv1 : inR v1) {M : Mem} {o : (Int) ⊕ ((Int) ⊕ (Int × Mem))} (HC : ∀ (y2 : Int) (H : Heap) (locs : List Loc) (ls : Array Slot), o = .inl y2 → inR y2 → lv_has ls 3 [(0, .ref (ad 0)), (1, .int (i2 v1)), (2, .int (i2 y2))] → WS D aC ad A H0 M H locs → W p l e rm_X10_classes s m args below meth c H locs 0 0 Q (F0 m 13 ls [])) (HE : ∀ (y2 : Int) (H : Heap) (locs : List Loc) (ls : Array Slot), o = .inr (.inl y2) → inR y2 → lv_has ls 3 [(0, .ref (ad 0)), (1, .int (i2 v1)), (2, .int (i2 y2))] → WS D aC ad A H0 M H locs → W p l e rm_X10_classes s m args below meth c H locs 0 0 Q (F0 m 37 ls [])) (HR : ∀ (r : Int) (M1 : Mem) (H : Heap) (locs : List Loc) (pc : Nat) (ls : Array Slot), o = .inr (.inr (r, M1)) → isZ r → WS D aC ad A H0 M1 H locs → decode cX10_classes pc = .ok (.ireturn, 1) → W p l e rm_X10_classes s m args below meth c H locs 0 0 Q (F0 m pc ls [.int (i2 r)])) (v2 : Int) (hv2 : inR v2) (hf : f_X10_classes_s13 v1 M v2 = some o) {H : Heap} {locs : List Loc} {ls : Array Slot} (hl : lv_has ls 3 [(0, .ref (ad 0)), (1, .int (i2 v1)), (2, .int (i2 v2))]) (w : WS D aC ad A H0 M H locs) : W p l e rm_X10_classes s m args below meth c H locs 0 0 Q (F0 m 13 ls []) := by
  have hx := X.1.1
  have hb := X.1.2.1
  unfold f_X10_classes_s13 at hf
  refine lv_iload_n hx hb dX10_classes_13 rfl (lv_at hl 2 rfl) ?_
  refine g_bipush X dX10_classes_14 (by decide) ?_
  refine g_icmp_ge (tgt := 37) X hv2 (inL rfl) dX10_classes_16 (by decide) (fun cd => ?_) (fun cd => ?_)
  · replace hf := ite_t cd hf
    exact HE v2 _ _ _ (Option.some.inj hf).symm hv2 hl w
  · replace hf := ite_f cd hf
    refine lv_aload_n hx hb dX10_classes_19 rfl (lv_at hl 0 rfl) ?_
    refine g_getr X w fg_X10_78 KD_0 FR_0_9 dX10_classes_20 ?_
    refine lv_iload_n hx hb dX10_classes_23 rfl (lv_at hl 2 rfl) ?_
    obtain ⟨hg, hf⟩ := gd_some hf
    refine g_iald X w KD_1 hv2 hg dX10_classes_24 ?_
    refine lv_iload_n hx hb dX10_classes_25 rfl (lv_at hl 1 rfl) ?_
    refine g_icmp_lt (tgt := 31) X (w.2.2 _ _) hv1 dX10_classes_26 (by decide) (fun cd_2 => ?_) (fun cd_2 => ?_)
    · replace hf := ite_t cd_2 hf
      obtain ⟨v2_2, ev2_2, hf⟩ := lt_some hf
      have hv2_2 : inR v2_2 := inR_of ev2_2 (inR_wrap _)
      refine lv_iinc (v := i2 v2_2) (lv' := [(2, .int (i2 v2_2)), (0, .ref (ad 0)), (1, .int (i2 v1))]) hx hb dX10_classes_31 hl (k := 2) rfl (by rw [ev2_2]; exact i2_add _ _) (by decide) rfl (fun ls hl => ?_)
      refine lv_goto (tgt := 13) hx hb dX10_classes_34 (by decide) ?_
      exact HC v2_2 _ _ _ (Option.some.inj hf).symm hv2_2 (lv_sub hl [1, 2, 0] rfl) w
    · replace hf := ite_f cd_2 hf
      refine g_iconst X dX10_classes_29 ?_
      exact HR 0 M _ _ _ _ (Option.some.inj hf).symm (Or.inl rfl) w dX10_classes_30
set_option maxRecDepth 100000 in
set_option maxHeartbeats 4000000 in
theorem l_X10_classes_13 (X : CX p s m args c cX10_classes 3 RX10 D aC ad sg A H0) (v1 : Int) (hv1 : inR v1) {M : Mem} {out : (Int) ⊕ (Int × Mem)} (HE : ∀ (y2 : Int) (H : Heap) (locs : List Loc) (ls : Array Slot), out = .inl y2 → inR y2 → lv_has ls 3 [(0, .ref (ad 0)), (1, .int (i2 v1)), (2, .int (i2 y2))] → WS D aC ad A H0 M H locs → W p l e rm_X10_classes s m args below meth c H locs 0 0 Q (F0 m 37 ls [])) (HR : ∀ (r : Int) (M1 : Mem) (H : Heap) (locs : List Loc) (pc : Nat) (ls : Array Slot), out = .inr (r, M1) → isZ r → WS D aC ad A H0 M1 H locs → decode cX10_classes pc = .ok (.ireturn, 1) → W p l e rm_X10_classes s m args below meth c H locs 0 0 Q (F0 m pc ls [.int (i2 r)])) : ∀ (n : Nat) (v2 : Int), whl (fun s => f_X10_classes_s13 v1 M s) n v2 = some out → inR v2 → ∀ {H : Heap} {locs : List Loc} {ls : Array Slot}, lv_has ls 3 [(0, .ref (ad 0)), (1, .int (i2 v1)), (2, .int (i2 v2))] → WS D aC ad A H0 M H locs → W p l e rm_X10_classes s m args below meth c H locs 0 0 Q (F0 m 13 ls []) := by
  intro n
  induction n with
  | zero => intro v2 hf; exact (whl_zero hf).elim
  | succ n ih =>
    intro v2 hf hv2 H locs ls hl w
    obtain ⟨o, hf, hk1, hk2⟩ := whl_step hf
    exact b_X10_classes_s13 X v1 hv1 (fun y2 H locs ls eo hy2 hl w => ih y2 (hk1 _ eo) hy2 hl w) (fun y2 H locs ls eo hy2 hl w => HE y2 H locs ls (hk2 _ eo).symm hy2 hl w) (fun r M1 H locs pc ls eo hP w dg => HR r M1 H locs pc ls (hk2 _ eo).symm hP w dg) v2 hv2 hf hl w
set_option maxRecDepth 100000 in
set_option maxHeartbeats 4000000 in
theorem b_X10_classes_j37 (X : CX p s m args c cX10_classes 3 RX10 D aC ad sg A H0) {o : Int × Mem} (HR : ∀ (r : Int) (M1 : Mem) (H : Heap) (locs : List Loc) (pc : Nat) (ls : Array Slot), o = (r, M1) → isZ r → WS D aC ad A H0 M1 H locs → decode cX10_classes pc = .ok (.ireturn, 1) → W p l e rm_X10_classes s m args below meth c H locs 0 0 Q (F0 m pc ls [.int (i2 r)])) (v1 : Int) (hv1 : inR v1) (M : Mem) (hf : f_X10_classes_j37 v1 M = some o) {H : Heap} {locs : List Loc} {ls : Array Slot} (hl : lv_has ls 3 [(0, .ref (ad 0)), (1, .int (i2 v1))]) (w : WS D aC ad A H0 M H locs) : W p l e rm_X10_classes s m args below meth c H locs 0 0 Q (F0 m 37 ls []) := by
  have hx := X.1.1
  have hb := X.1.2.1
  unfold f_X10_classes_j37 at hf
  refine lv_aload_n hx hb dX10_classes_37 rfl (lv_at hl 0 rfl) ?_
  refine g_iconst X dX10_classes_38 ?_
  obtain ⟨M_2, eM_2, hf⟩ := lt_some hf
  refine g_putz X w fp_X10_109 KD_0 FR_0_16 (Or.inl rfl) dX10_classes_39 (fun H locs w_M_2 => ?_)
  rw [← eM_2] at w_M_2
  refine lv_aload_n hx hb dX10_classes_42 rfl (lv_at hl 0 rfl) ?_
  refine g_getr X w_M_2 fg_X10_10 KD_0 FR_0_0 dX10_classes_43 ?_
  refine lv_iload_n hx hb dX10_classes_46 rfl (lv_at hl 1 rfl) ?_
  obtain ⟨M_3, eM_3, hf⟩ := lt_some hf
  refine g_puti X w_M_2 fp_X10_151 KD_3 FR_3_13 hv1 dX10_classes_47 (fun H locs w_M_3 => ?_)
  rw [← eM_3] at w_M_3
  refine g_iconst X dX10_classes_50 ?_
  exact HR 1 M_3 _ _ _ _ (Option.some.inj hf).symm (Or.inr rfl) w_M_3 dX10_classes_51
set_option maxRecDepth 100000 in
set_option maxHeartbeats 4000000 in
theorem b_X10_classes_0 (X : CX p s m args c cX10_classes 3 RX10 D aC ad sg A H0) {o : Int × Mem} (HR : ∀ (r : Int) (M1 : Mem) (H : Heap) (locs : List Loc) (pc : Nat) (ls : Array Slot), o = (r, M1) → isZ r → WS D aC ad A H0 M1 H locs → decode cX10_classes pc = .ok (.ireturn, 1) → W p l e rm_X10_classes s m args below meth c H locs 0 0 Q (F0 m pc ls [.int (i2 r)])) (p1 : Int) (hp1 : inR p1) (M : Mem) (hf : f_X10_classes p1 M = some o) {H : Heap} {locs : List Loc} {ls : Array Slot} (hl : lv_has ls 3 [(0, .ref (ad 0)), (1, .int (i2 p1))]) (w : WS D aC ad A H0 M H locs) : W p l e rm_X10_classes s m args below meth c H locs 0 0 Q (F0 m 0 ls []) := by
  have hx := X.1.1
  have hb := X.1.2.1
  unfold f_X10_classes at hf
  refine lv_iload_n hx hb dX10_classes_0 rfl (lv_at hl 1 rfl) ?_
  refine g_iconst X dX10_classes_1 ?_
  refine g_iconst X dX10_classes_2 ?_
  obtain ⟨r, hc, hf⟩ := obn_some hf
  refine g_csi (As := [.int (i2 p1), .int (i2 2), .int (i2 3)]) (rest := []) X w (k_X10_within X.2.2.1 p1 hp1 2 (inL rfl) 3 (inL rfl) w.2.2 hc) lk_X10_105 ⟨rfl, rfl⟩ ⟨nle rfl, nle rfl⟩ ⟨nle rfl, nle rfl⟩ hl.1 rfl (nle rfl) dX10_classes_3 (fun hr H locs w => ?_)
  refine g_if_ne (tgt := 11) X hr dX10_classes_6 (by decide) (fun cd => ?_) (fun cd => ?_)
  · replace hf := ite_f cd hf
    refine g_iconst X dX10_classes_11 ?_
    refine g_istn (v := 0) (lv' := [(2, .int (i2 0)), (0, .ref (ad 0)), (1, .int (i2 p1))]) X rfl dX10_classes_12 rfl hl (by decide) rfl (fun ls hl => ?_)
    obtain ⟨q, hq, h1, h2⟩ := lpr_some hf
    exact l_X10_classes_13 X p1 hp1 (out := q) (fun y2 H locs ls eq hy2 hl w => b_X10_classes_j37 X  HR p1 hp1 M (h1 _ eq) (lv_sub hl [0, 1] rfl) w) (fun r M1 H locs pc ls eq hP w dg => HR r M1 H locs pc ls (Option.some.inj (h2 _ eq)).symm hP w dg) FU 0 hq (inL rfl) (lv_sub hl [1, 2, 0] rfl) w
  · replace hf := ite_t cd hf
    refine g_iconst X dX10_classes_9 ?_
    exact HR 0 M _ _ _ _ (Option.some.inj hf).symm (Or.inl rfl) w dX10_classes_10
set_option maxRecDepth 100000 in
set_option maxHeartbeats 4000000 in
theorem k_X10_classes {l : Launch} {D : va_G} {aC : Nat → ClassId} {ad : Nat → Nat} {sg : SG} (hi : Inj ad) (p1 : Int) (hp1 : inR p1) {M : Mem} (hM : inM M) {r : Int} {M' : Mem} (hf : f_X10_classes p1 M = some (r, M')) : MetI l D aC ad sg yX10_classes cX10_classes 3 (some .boolean) rm_X10_classes 0 0 [.ref (ad 0), .int (i2 p1)] M r M' := by
  refine MetI.ofZ (by decide +kernel) (nle rfl) hi hM (fun p e s m args below meth c Q H0 ls X hl w hret => ?_)
  exact b_X10_classes_0 X  (fun r1 M1 H locs pc ls eo hP w dg => by cases eo; exact hret H locs pc ls hP w dg) p1 hp1 M hf hl w
set_option maxRecDepth 100000 in
set_option maxHeartbeats 4000000 in
theorem b_X10_room_0 (X : CX p s m args c cX10_room 3 RX10 D aC ad sg A H0) {o : Int × Mem} (HR : ∀ (r : Int) (M1 : Mem) (H : Heap) (locs : List Loc) (pc : Nat) (ls : Array Slot), o = (r, M1) → isZ r → WS D aC ad A H0 M1 H locs → decode cX10_room pc = .ok (.ireturn, 1) → W p l e rm_X10_room s m args below meth c H locs 0 0 Q (F0 m pc ls [.int (i2 r)])) (p1 : Int) (hp1 : inR p1) (p2 : Int) (hp2 : inR p2) (M : Mem) (hf : f_X10_room p1 p2 M = some o) {H : Heap} {locs : List Loc} {ls : Array Slot} (hl : lv_has ls 3 [(0, .ref (ad 0)), (1, .int (i2 p1)), (2, .int (i2 p2))]) (w : WS D aC ad A H0 M H locs) : W p l e rm_X10_room s m args below meth c H locs 0 0 Q (F0 m 0 ls []) := by
  have hx := X.1.1
  have hb := X.1.2.1
  unfold f_X10_room at hf
  refine lv_iload_n hx hb dX10_room_0 rfl (lv_at hl 1 rfl) ?_
  refine g_iconst X dX10_room_1 ?_
  refine g_iconst X dX10_room_2 ?_
  obtain ⟨r, hc, hf⟩ := obn_some hf
  refine g_csi (As := [.int (i2 p1), .int (i2 0), .int (i2 2)]) (rest := []) X w (k_X10_within X.2.2.1 p1 hp1 0 (inL rfl) 2 (inL rfl) w.2.2 hc) lk_X10_105 ⟨rfl, rfl⟩ ⟨nle rfl, nle rfl⟩ ⟨nle rfl, nle rfl⟩ hl.1 rfl (nle rfl) dX10_room_3 (fun hr H locs w => ?_)
  refine g_if_eq (tgt := 19) X hr dX10_room_6 (by decide) (fun cd => ?_) (fun cd => ?_)
  · replace hf := ite_t cd hf
    refine g_iconst X dX10_room_19 ?_
    exact HR 0 M _ _ _ _ (Option.some.inj hf).symm (Or.inl rfl) w dX10_room_20
  · replace hf := ite_f cd hf
    refine lv_iload_n hx hb dX10_room_9 rfl (lv_at hl 2 rfl) ?_
    refine g_iconst X dX10_room_10 ?_
    refine g_bipush X dX10_room_11 (by decide) ?_
    obtain ⟨r_2, hc, hf⟩ := obn_some hf
    refine g_csi (As := [.int (i2 p2), .int (i2 0), .int (i2 14)]) (rest := []) X w (k_X10_within X.2.2.1 p2 hp2 0 (inL rfl) 14 (inL rfl) w.2.2 hc) lk_X10_105 ⟨rfl, rfl⟩ ⟨nle rfl, nle rfl⟩ ⟨nle rfl, nle rfl⟩ hl.1 rfl (nle rfl) dX10_room_13 (fun hr_2 H locs w => ?_)
    refine g_if_ne (tgt := 21) X hr_2 dX10_room_16 (by decide) (fun cd_2 => ?_) (fun cd_2 => ?_)
    · replace hf := ite_f cd_2 hf
      refine lv_aload_n hx hb dX10_room_21 rfl (lv_at hl 0 rfl) ?_
      refine g_iconst X dX10_room_22 ?_
      obtain ⟨M_2, eM_2, hf⟩ := lt_some hf
      refine g_putz X w fp_X10_109 KD_0 FR_0_16 (Or.inl rfl) dX10_room_23 (fun H locs w_M_2 => ?_)
      rw [← eM_2] at w_M_2
      refine lv_aload_n hx hb dX10_room_26 rfl (lv_at hl 0 rfl) ?_
      refine g_getr X w_M_2 fg_X10_10 KD_0 FR_0_0 dX10_room_27 ?_
      refine g_getr X w_M_2 fg_X10_154 KD_3 FR_3_14 dX10_room_30 ?_
      refine lv_iload_n hx hb dX10_room_33 rfl (lv_at hl 1 rfl) ?_
      refine lv_iload_n hx hb dX10_room_34 rfl (lv_at hl 2 rfl) ?_
      obtain ⟨hg, hf⟩ := gd_some hf
      obtain ⟨M_3, eM_3, hf⟩ := lt_some hf
      refine g_iast X w_M_2 KD_16 hp1 hg hp2 dX10_room_35 (fun H locs w_M_3 => ?_)
      rw [← eM_3] at w_M_3
      refine g_iconst X dX10_room_36 ?_
      exact HR 1 M_3 _ _ _ _ (Option.some.inj hf).symm (Or.inr rfl) w_M_3 dX10_room_37
    · replace hf := ite_t cd_2 hf
      refine g_iconst X dX10_room_19 ?_
      exact HR 0 M _ _ _ _ (Option.some.inj hf).symm (Or.inl rfl) w dX10_room_20
set_option maxRecDepth 100000 in
set_option maxHeartbeats 4000000 in
theorem k_X10_room {l : Launch} {D : va_G} {aC : Nat → ClassId} {ad : Nat → Nat} {sg : SG} (hi : Inj ad) (p1 : Int) (hp1 : inR p1) (p2 : Int) (hp2 : inR p2) {M : Mem} (hM : inM M) {r : Int} {M' : Mem} (hf : f_X10_room p1 p2 M = some (r, M')) : MetI l D aC ad sg yX10_room cX10_room 3 (some .boolean) rm_X10_room 0 0 [.ref (ad 0), .int (i2 p1), .int (i2 p2)] M r M' := by
  refine MetI.ofZ (by decide +kernel) (nle rfl) hi hM (fun p e s m args below meth c Q H0 ls X hl w hret => ?_)
  exact b_X10_room_0 X  (fun r1 M1 H locs pc ls eo hP w dg => by cases eo; exact hret H locs pc ls hP w dg) p1 hp1 p2 hp2 M hf hl w
set_option maxRecDepth 100000 in
set_option maxHeartbeats 4000000 in
theorem b_X10_feed_0 (X : CX p s m args c cX10_feed 6 RX10 D aC ad sg A H0) {o : Int × Mem} (HR : ∀ (r : Int) (M1 : Mem) (H : Heap) (locs : List Loc) (pc : Nat) (ls : Array Slot), o = (r, M1) → inR r → WS D aC ad A H0 M1 H locs → decode cX10_feed pc = .ok (.ireturn, 1) → W p l e rm_X10_feed s m args below meth c H locs 0 0 Q (F0 m pc ls [.int (i2 r)])) (p1 : Int) (hp1 : inR p1) (p2 : Int) (hp2 : inR p2) (p3 : Int) (hp3 : inR p3) (p4 : Int) (hp4 : inR p4) (p5 : Int) (hp5 : inR p5) (M : Mem) (hf : f_X10_feed p1 p2 p3 p4 p5 M = some o) {H : Heap} {locs : List Loc} {ls : Array Slot} (hl : lv_has ls 6 [(0, .ref (ad 0)), (1, .int (i2 p1)), (2, .int (i2 p2)), (3, .int (i2 p3)), (4, .int (i2 p4)), (5, .int (i2 p5))]) (w : WS D aC ad A H0 M H locs) : W p l e rm_X10_feed s m args below meth c H locs 0 0 Q (F0 m 0 ls []) := by
  have hx := X.1.1
  have hb := X.1.2.1
  unfold f_X10_feed at hf
  refine lv_aload_n hx hb dX10_feed_0 rfl (lv_at hl 0 rfl) ?_
  refine g_getr X w fg_X10_26 KD_0 FR_0_2 dX10_feed_1 ?_
  refine g_bipush X dX10_feed_4 (by decide) ?_
  obtain ⟨r, hc, hf⟩ := obn_some hf
  refine g_cvi (As := [.int (i2 20)]) (rest := []) X w (k_X9_hasSpace X.2.2.1 20 (inL rfl) w.2.2 hc) lk_X10_157 cl_9 KD_24 ⟨rfl, rfl⟩ ⟨nle rfl, nle rfl⟩ ⟨nle rfl, nle rfl⟩ hl.1 rfl (nle rfl) dX10_feed_6 (fun hr H locs w => ?_)
  refine g_if_ne (tgt := 14) X hr dX10_feed_9 (by decide) (fun cd => ?_) (fun cd => ?_)
  · replace hf := ite_f cd hf
    refine lv_aload_n hx hb dX10_feed_14 rfl (lv_at hl 0 rfl) ?_
    refine g_getr X w fg_X10_26 KD_0 FR_0_2 dX10_feed_15 ?_
    refine lv_iload_n hx hb dX10_feed_18 rfl (lv_at hl 1 rfl) ?_
    obtain ⟨M_2, hc, hf⟩ := obn_some hf
    refine g_cvv (As := [.int (i2 p1)]) (rest := []) X w (k_X9_append X.2.2.1 p1 hp1 w.2.2 hc) lk_X10_160 cl_9 KD_24 ⟨rfl, rfl⟩ ⟨nle rfl, nle rfl⟩ ⟨nle rfl, nle rfl⟩ hl.1 rfl (nle rfl) dX10_feed_19 (fun H locs w_M_2 => ?_)
    refine lv_aload_n hx hb dX10_feed_22 rfl (lv_at hl 0 rfl) ?_
    refine g_getr X w_M_2 fg_X10_26 KD_0 FR_0_2 dX10_feed_23 ?_
    refine lv_iload_n hx hb dX10_feed_26 rfl (lv_at hl 2 rfl) ?_
    obtain ⟨M_3, hc, hf⟩ := obn_some hf
    refine g_cvv (As := [.int (i2 p2)]) (rest := []) X w_M_2 (k_X9_append X.2.2.1 p2 hp2 w_M_2.2.2 hc) lk_X10_160 cl_9 KD_24 ⟨rfl, rfl⟩ ⟨nle rfl, nle rfl⟩ ⟨nle rfl, nle rfl⟩ hl.1 rfl (nle rfl) dX10_feed_27 (fun H locs w_M_3 => ?_)
    refine lv_aload_n hx hb dX10_feed_30 rfl (lv_at hl 0 rfl) ?_
    refine g_getr X w_M_3 fg_X10_26 KD_0 FR_0_2 dX10_feed_31 ?_
    refine lv_iload_n hx hb dX10_feed_34 rfl (lv_at hl 3 rfl) ?_
    obtain ⟨M_4, hc, hf⟩ := obn_some hf
    refine g_cvv (As := [.int (i2 p3)]) (rest := []) X w_M_3 (k_X9_append X.2.2.1 p3 hp3 w_M_3.2.2 hc) lk_X10_160 cl_9 KD_24 ⟨rfl, rfl⟩ ⟨nle rfl, nle rfl⟩ ⟨nle rfl, nle rfl⟩ hl.1 rfl (nle rfl) dX10_feed_35 (fun H locs w_M_4 => ?_)
    refine lv_aload_n hx hb dX10_feed_38 rfl (lv_at hl 0 rfl) ?_
    refine g_getr X w_M_4 fg_X10_26 KD_0 FR_0_2 dX10_feed_39 ?_
    refine lv_iload hx hb dX10_feed_42 (lv_at hl 4 rfl) ?_
    obtain ⟨M_5, hc, hf⟩ := obn_some hf
    refine g_cvv (As := [.int (i2 p4)]) (rest := []) X w_M_4 (k_X9_append X.2.2.1 p4 hp4 w_M_4.2.2 hc) lk_X10_160 cl_9 KD_24 ⟨rfl, rfl⟩ ⟨nle rfl, nle rfl⟩ ⟨nle rfl, nle rfl⟩ hl.1 rfl (nle rfl) dX10_feed_44 (fun H locs w_M_5 => ?_)
    refine lv_aload_n hx hb dX10_feed_47 rfl (lv_at hl 0 rfl) ?_
    refine g_getr X w_M_5 fg_X10_26 KD_0 FR_0_2 dX10_feed_48 ?_
    refine lv_iload hx hb dX10_feed_51 (lv_at hl 5 rfl) ?_
    obtain ⟨M_6, hc, hf⟩ := obn_some hf
    refine g_cvv (As := [.int (i2 p5)]) (rest := []) X w_M_5 (k_X9_append X.2.2.1 p5 hp5 w_M_5.2.2 hc) lk_X10_160 cl_9 KD_24 ⟨rfl, rfl⟩ ⟨nle rfl, nle rfl⟩ ⟨nle rfl, nle rfl⟩ hl.1 rfl (nle rfl) dX10_feed_53 (fun H locs w_M_6 => ?_)
    refine lv_aload_n hx hb dX10_feed_56 rfl (lv_at hl 0 rfl) ?_
    refine g_getr X w_M_6 fg_X10_26 KD_0 FR_0_2 dX10_feed_57 ?_
    refine g_geti X w_M_6 fg_X10_164 KD_24 FR_24_0 dX10_feed_60 ?_
    exact HR (M_6 24 0) M_6 _ _ _ _ (Option.some.inj hf).symm (w_M_6.2.2 _ _) w_M_6 dX10_feed_63
  · replace hf := ite_t cd hf
    refine g_iconst X dX10_feed_12 ?_
    exact HR (-1) M _ _ _ _ (Option.some.inj hf).symm (inL rfl) w dX10_feed_13
set_option maxRecDepth 100000 in
set_option maxHeartbeats 4000000 in
theorem k_X10_feed {l : Launch} {D : va_G} {aC : Nat → ClassId} {ad : Nat → Nat} {sg : SG} (hi : Inj ad) (p1 : Int) (hp1 : inR p1) (p2 : Int) (hp2 : inR p2) (p3 : Int) (hp3 : inR p3) (p4 : Int) (hp4 : inR p4) (p5 : Int) (hp5 : inR p5) {M : Mem} (hM : inM M) {r : Int} {M' : Mem} (hf : f_X10_feed p1 p2 p3 p4 p5 M = some (r, M')) : MetI l D aC ad sg yX10_feed cX10_feed 6 (some .int) rm_X10_feed 0 0 [.ref (ad 0), .int (i2 p1), .int (i2 p2), .int (i2 p3), .int (i2 p4), .int (i2 p5)] M r M' := by
  refine MetI.ofI (by decide +kernel) (nle rfl) hi hM (fun p e s m args below meth c Q H0 ls X hl w hret => ?_)
  exact b_X10_feed_0 X  (fun r1 M1 H locs pc ls eo hP w dg => by cases eo; exact hret H locs pc ls hP w dg) p1 hp1 p2 hp2 p3 hp3 p4 hp4 p5 hp5 M hf hl w
set_option maxRecDepth 100000 in
set_option maxHeartbeats 4000000 in
theorem b_X10_end_0 (X : CX p s m args c cX10_end 2 RX10 D aC ad sg A H0) {o : Int × Mem} (HR : ∀ (r : Int) (M1 : Mem) (H : Heap) (locs : List Loc) (pc : Nat) (ls : Array Slot), o = (r, M1) → inR r → WS D aC ad A H0 M1 H locs → decode cX10_end pc = .ok (.ireturn, 1) → W p l e rm_X10_end s m args below meth c H locs 0 0 Q (F0 m pc ls [.int (i2 r)])) (p1 : Int) (hp1 : inR p1) (M : Mem) (hf : f_X10_end p1 M = some o) {H : Heap} {locs : List Loc} {ls : Array Slot} (hl : lv_has ls 2 [(0, .ref (ad 0)), (1, .int (i2 p1))]) (w : WS D aC ad A H0 M H locs) : W p l e rm_X10_end s m args below meth c H locs 0 0 Q (F0 m 0 ls []) := by
  have hx := X.1.1
  have hb := X.1.2.1
  unfold f_X10_end at hf
  refine lv_iload_n hx hb dX10_end_0 rfl (lv_at hl 1 rfl) ?_
  refine g_iconst X dX10_end_1 ?_
  refine lv_aload_n hx hb dX10_end_2 rfl (lv_at hl 0 rfl) ?_
  refine g_getr X w fg_X10_26 KD_0 FR_0_2 dX10_end_3 ?_
  refine g_geti X w fg_X10_164 KD_24 FR_24_0 dX10_end_6 ?_
  obtain ⟨r, hc, hf⟩ := obn_some hf
  refine g_csi (As := [.int (i2 p1), .int (i2 0), .int (i2 (M 24 0))]) (rest := []) X w (k_X10_within X.2.2.1 p1 hp1 0 (inL rfl) (M 24 0) (w.2.2 _ _) w.2.2 hc) lk_X10_105 ⟨rfl, rfl⟩ ⟨nle rfl, nle rfl⟩ ⟨nle rfl, nle rfl⟩ hl.1 rfl (nle rfl) dX10_end_9 (fun hr H locs w => ?_)
  refine g_if_ne (tgt := 17) X hr dX10_end_12 (by decide) (fun cd => ?_) (fun cd => ?_)
  · replace hf := ite_f cd hf
    refine lv_aload_n hx hb dX10_end_17 rfl (lv_at hl 0 rfl) ?_
    refine g_getr X w fg_X10_26 KD_0 FR_0_2 dX10_end_18 ?_
    refine lv_iload_n hx hb dX10_end_21 rfl (lv_at hl 1 rfl) ?_
    obtain ⟨M_2, eM_2, hf⟩ := lt_some hf
    refine g_puti X w fp_X10_164 KD_24 FR_24_0 hp1 dX10_end_22 (fun H locs w_M_2 => ?_)
    rw [← eM_2] at w_M_2
    refine lv_iload_n hx hb dX10_end_25 rfl (lv_at hl 1 rfl) ?_
    exact HR p1 M_2 _ _ _ _ (Option.some.inj hf).symm hp1 w_M_2 dX10_end_26
  · replace hf := ite_t cd hf
    refine g_iconst X dX10_end_15 ?_
    exact HR (-1) M _ _ _ _ (Option.some.inj hf).symm (inL rfl) w dX10_end_16
set_option maxRecDepth 100000 in
set_option maxHeartbeats 4000000 in
theorem k_X10_end {l : Launch} {D : va_G} {aC : Nat → ClassId} {ad : Nat → Nat} {sg : SG} (hi : Inj ad) (p1 : Int) (hp1 : inR p1) {M : Mem} (hM : inM M) {r : Int} {M' : Mem} (hf : f_X10_end p1 M = some (r, M')) : MetI l D aC ad sg yX10_end cX10_end 2 (some .int) rm_X10_end 0 0 [.ref (ad 0), .int (i2 p1)] M r M' := by
  refine MetI.ofI (by decide +kernel) (nle rfl) hi hM (fun p e s m args below meth c Q H0 ls X hl w hret => ?_)
  exact b_X10_end_0 X  (fun r1 M1 H locs pc ls eo hP w dg => by cases eo; exact hret H locs pc ls hP w dg) p1 hp1 M hf hl w
set_option maxRecDepth 100000 in
set_option maxHeartbeats 4000000 in
theorem b_X10_rule_0 (X : CX p s m args c cX10_rule 3 RX10 D aC ad sg A H0) {o : Int × Mem} (HR : ∀ (r : Int) (M1 : Mem) (H : Heap) (locs : List Loc) (pc : Nat) (ls : Array Slot), o = (r, M1) → inR r → WS D aC ad A H0 M1 H locs → decode cX10_rule pc = .ok (.ireturn, 1) → W p l e rm_X10_rule s m args below meth c H locs 0 0 Q (F0 m pc ls [.int (i2 r)])) (M : Mem) (hf : f_X10_rule M = some o) {H : Heap} {locs : List Loc} {ls : Array Slot} (hl : lv_has ls 3 [(0, .ref (ad 0))]) (w : WS D aC ad A H0 M H locs) : W p l e rm_X10_rule s m args below meth c H locs 0 0 Q (F0 m 0 ls []) := by
  have hx := X.1.1
  have hb := X.1.2.1
  unfold f_X10_rule at hf
  refine lv_aload_n hx hb dX10_rule_0 rfl (lv_at hl 0 rfl) ?_
  refine g_getr X w fg_X10_35 KD_0 FR_0_3 dX10_rule_1 ?_
  refine lv_aload_n hx hb dX10_rule_4 rfl (lv_at hl 0 rfl) ?_
  obtain ⟨hru, hf⟩ := gd_some hf
  refine g_getd X w fg_X10_98 KD_0 FR_0_12 hru dX10_rule_5 ?_
  obtain ⟨r, M_2, hc, hf⟩ := bnd_some hf
  refine g_cvi (As := [.ref (ad ((M 0 12).toNat))]) (rest := []) X w (k_X6_reads X.2.2.1 (M 0 12) hru w.2.2 hc) lk_X10_167 cl_6 KD_29 ⟨rfl, rfl⟩ ⟨nle rfl, nle rfl⟩ ⟨nle rfl, nle rfl⟩ hl.1 rfl (nle rfl) dX10_rule_8 (fun hr H locs w_M_2 => ?_)
  refine g_istn (v := r) (lv' := [(1, .int (i2 r)), (0, .ref (ad 0))]) X rfl dX10_rule_11 rfl hl (by decide) rfl (fun ls hl => ?_)
  refine lv_aload_n hx hb dX10_rule_12 rfl (lv_at hl 1 rfl) ?_
  refine g_getr X w_M_2 fg_X10_26 KD_0 FR_0_2 dX10_rule_13 ?_
  refine g_iconst X dX10_rule_16 ?_
  obtain ⟨M_3, eM_3, hf⟩ := lt_some hf
  refine g_puti X w_M_2 fp_X10_164 KD_24 FR_24_0 (inL rfl) dX10_rule_17 (fun H locs w_M_3 => ?_)
  rw [← eM_3] at w_M_3
  refine lv_iload_n hx hb dX10_rule_20 rfl (lv_at hl 0 rfl) ?_
  refine g_if_ne (tgt := 34) X hr dX10_rule_21 (by decide) (fun cd => ?_) (fun cd => ?_)
  · replace hf := ite_f cd hf
    refine lv_aload_n hx hb dX10_rule_34 rfl (lv_at hl 1 rfl) ?_
    obtain ⟨hru_2, hf⟩ := gd_some hf
    refine g_getd X w_M_3 fg_X10_94 KD_0 FR_0_11 hru_2 dX10_rule_35 ?_
    refine lv_astore_n (lv' := [(2, .ref (ad ((M_3 0 11).toNat))), (1, .int (i2 r)), (0, .ref (ad 0))]) hx hb dX10_rule_38 rfl hl (by decide) rfl (fun ls hl => ?_)
    refine lv_aload_n hx hb dX10_rule_39 rfl (lv_at hl 2 rfl) ?_
    refine lv_aload_n hx hb dX10_rule_40 rfl (lv_at hl 2 rfl) ?_
    obtain ⟨hru_3, hf⟩ := gd_some hf
    refine g_getd X w_M_3 fg_X10_98 KD_0 FR_0_12 hru_3 dX10_rule_41 ?_
    obtain ⟨M_4, eM_4, hf⟩ := lt_some hf
    refine g_putd X w_M_3 fp_X10_94 KD_0 FR_0_11 hru_3 dX10_rule_44 (fun H locs w_M_4 => ?_)
    rw [← eM_4] at w_M_4
    refine lv_aload_n hx hb dX10_rule_47 rfl (lv_at hl 2 rfl) ?_
    refine lv_aload_n hx hb dX10_rule_48 rfl (lv_at hl 0 rfl) ?_
    obtain ⟨M_5, eM_5, hf⟩ := lt_some hf
    refine g_putd X w_M_4 fp_X10_98 KD_0 FR_0_12 hru_2 dX10_rule_49 (fun H locs w_M_5 => ?_)
    rw [← eM_5] at w_M_5
    refine lv_aload_n hx hb dX10_rule_52 rfl (lv_at hl 2 rfl) ?_
    refine g_iconst X dX10_rule_53 ?_
    obtain ⟨M_6, eM_6, hf⟩ := lt_some hf
    refine g_putz X w_M_5 fp_X10_109 KD_0 FR_0_16 (Or.inl rfl) dX10_rule_54 (fun H locs w_M_6 => ?_)
    rw [← eM_6] at w_M_6
    refine lv_aload_n hx hb dX10_rule_57 rfl (lv_at hl 2 rfl) ?_
    obtain ⟨hru_4, hf⟩ := gd_some hf
    refine g_getd X w_M_6 fg_X10_94 KD_0 FR_0_11 hru_4 dX10_rule_58 ?_
    refine g_geti X w_M_6 fg_X10_174 (KD_ru hru_4) (FR_ru_0 hru_4) dX10_rule_61 ?_
    exact HR (M_6 ((M_6 0 11).toNat) 0) M_6 _ _ _ _ (Option.some.inj hf).symm (w_M_6.2.2 _ _) w_M_6 dX10_rule_64
  · replace hf := ite_t cd hf
    refine g_iconst X dX10_rule_24 ?_
    refine lv_aload_n hx hb dX10_rule_25 rfl (lv_at hl 1 rfl) ?_
    refine g_getr X w_M_3 fg_X10_35 KD_0 FR_0_3 dX10_rule_26 ?_
    refine g_geti X w_M_3 fg_X10_171 KD_29 FR_29_0 dX10_rule_29 ?_
    refine g_isub X dX10_rule_32 ?_
    exact HR (wrap ((-1) - (M_3 29 0))) M_3 _ _ _ _ (Option.some.inj hf).symm (inR_wrap _) w_M_3 dX10_rule_33
set_option maxRecDepth 100000 in
set_option maxHeartbeats 4000000 in
theorem k_X10_rule {l : Launch} {D : va_G} {aC : Nat → ClassId} {ad : Nat → Nat} {sg : SG} (hi : Inj ad)  {M : Mem} (hM : inM M) {r : Int} {M' : Mem} (hf : f_X10_rule M = some (r, M')) : MetI l D aC ad sg yX10_rule cX10_rule 3 (some .int) rm_X10_rule 0 0 [.ref (ad 0)] M r M' := by
  refine MetI.ofI (by decide +kernel) (nle rfl) hi hM (fun p e s m args below meth c Q H0 ls X hl w hret => ?_)
  exact b_X10_rule_0 X  (fun r1 M1 H locs pc ls eo hP w dg => by cases eo; exact hret H locs pc ls hP w dg) M hf hl w
set_option maxRecDepth 100000 in
set_option maxHeartbeats 4000000 in
theorem b_X10_place_0 (X : CX p s m args c cX10_place 1 RX10 D aC ad sg A H0) {M : Mem} {o : Int} (HR : ∀ (r : Int) (H : Heap) (locs : List Loc) (pc : Nat) (ls : Array Slot), o = r → inR r → WS D aC ad A H0 M H locs → decode cX10_place pc = .ok (.ireturn, 1) → W p l e rm_X10_place s m args below meth c H locs 0 0 Q (F0 m pc ls [.int (i2 r)])) (hf : f_X10_place M = some o) {H : Heap} {locs : List Loc} {ls : Array Slot} (hl : lv_has ls 1 [(0, .ref (ad 0))]) (w : WS D aC ad A H0 M H locs) : W p l e rm_X10_place s m args below meth c H locs 0 0 Q (F0 m 0 ls []) := by
  have hx := X.1.1
  have hb := X.1.2.1
  unfold f_X10_place at hf
  refine lv_aload_n hx hb dX10_place_0 rfl (lv_at hl 0 rfl) ?_
  refine g_getr X w fg_X10_35 KD_0 FR_0_3 dX10_place_1 ?_
  refine g_geti X w fg_X10_177 KD_29 FR_29_1 dX10_place_4 ?_
  exact HR (M 29 1) _ _ _ _ (Option.some.inj hf).symm (w.2.2 _ _) w dX10_place_7
set_option maxRecDepth 100000 in
set_option maxHeartbeats 4000000 in
theorem k_X10_place {l : Launch} {D : va_G} {aC : Nat → ClassId} {ad : Nat → Nat} {sg : SG} (hi : Inj ad)  {M : Mem} (hM : inM M) {r : Int} (hf : f_X10_place M = some r) : MetI l D aC ad sg yX10_place cX10_place 1 (some .int) rm_X10_place 0 0 [.ref (ad 0)] M r M := by
  refine MetI.ofI (by decide +kernel) (nle rfl) hi hM (fun p e s m args below meth c Q H0 ls X hl w hret => ?_)
  exact b_X10_place_0 X  (fun r1 H locs pc ls eo hP w dg => by cases eo; exact hret H locs pc ls hP w dg)  hf hl w
set_option maxRecDepth 100000 in
set_option maxHeartbeats 4000000 in
theorem b_X10_holds_0 (X : CX p s m args c cX10_holds 5 RX10 D aC ad sg A H0) {o : Int × Mem} (HR : ∀ (r : Int) (M1 : Mem) (H : Heap) (locs : List Loc) (pc : Nat) (ls : Array Slot), o = (r, M1) → inR r → WS D aC ad A H0 M1 H locs → decode cX10_holds pc = .ok (.ireturn, 1) → W p l e rm_X10_holds s m args below meth c H locs 0 0 Q (F0 m pc ls [.int (i2 r)])) (p1 : Int) (hp1 : inR p1) (p2 : Int) (hp2 : inR p2) (p3 : Int) (hp3 : inR p3) (p4 : Int) (hp4 : inR p4) (M : Mem) (hf : f_X10_holds p1 p2 p3 p4 M = some o) {H : Heap} {locs : List Loc} {ls : Array Slot} (hl : lv_has ls 5 [(0, .ref (ad 0)), (1, .int (i2 p1)), (2, .int (i2 p2)), (3, .int (i2 p3)), (4, .int (i2 p4))]) (w : WS D aC ad A H0 M H locs) : W p l e rm_X10_holds s m args below meth c H locs 0 0 Q (F0 m 0 ls []) := by
  have hx := X.1.1
  have hb := X.1.2.1
  unfold f_X10_holds at hf
  refine lv_iload_n hx hb dX10_holds_0 rfl (lv_at hl 1 rfl) ?_
  refine g_iconst X dX10_holds_1 ?_
  refine lv_aload_n hx hb dX10_holds_2 rfl (lv_at hl 0 rfl) ?_
  obtain ⟨hru, hf⟩ := gd_some hf
  refine g_getd X w fg_X10_94 KD_0 FR_0_11 hru dX10_holds_3 ?_
  refine g_geti X w fg_X10_174 (KD_ru hru) (FR_ru_0 hru) dX10_holds_6 ?_
  refine g_iconst X dX10_holds_9 ?_
  refine g_isub X dX10_holds_10 ?_
  obtain ⟨r, hc, hf⟩ := obn_some hf
  refine g_csi (As := [.int (i2 p1), .int (i2 0), .int (i2 (wrap ((M ((M 0 11).toNat) 0) - 1)))]) (rest := []) X w (k_X10_within X.2.2.1 p1 hp1 0 (inL rfl) (wrap ((M ((M 0 11).toNat) 0) - 1)) (inR_wrap _) w.2.2 hc) lk_X10_105 ⟨rfl, rfl⟩ ⟨nle rfl, nle rfl⟩ ⟨nle rfl, nle rfl⟩ hl.1 rfl (nle rfl) dX10_holds_11 (fun hr H locs w => ?_)
  refine g_if_eq (tgt := 46) X hr dX10_holds_14 (by decide) (fun cd => ?_) (fun cd => ?_)
  · replace hf := ite_t cd hf
    refine g_iconst X dX10_holds_46 ?_
    exact HR (-1) M _ _ _ _ (Option.some.inj hf).symm (inL rfl) w dX10_holds_47
  · replace hf := ite_f cd hf
    refine lv_iload_n hx hb dX10_holds_17 rfl (lv_at hl 2 rfl) ?_
    refine g_iconst X dX10_holds_18 ?_
    refine g_iconst X dX10_holds_19 ?_
    obtain ⟨r_2, hc, hf⟩ := obn_some hf
    refine g_csi (As := [.int (i2 p2), .int (i2 0), .int (i2 1)]) (rest := []) X w (k_X10_within X.2.2.1 p2 hp2 0 (inL rfl) 1 (inL rfl) w.2.2 hc) lk_X10_105 ⟨rfl, rfl⟩ ⟨nle rfl, nle rfl⟩ ⟨nle rfl, nle rfl⟩ hl.1 rfl (nle rfl) dX10_holds_20 (fun hr_2 H locs w => ?_)
    refine g_if_eq (tgt := 46) X hr_2 dX10_holds_23 (by decide) (fun cd_2 => ?_) (fun cd_2 => ?_)
    · replace hf := ite_t cd_2 hf
      refine g_iconst X dX10_holds_46 ?_
      exact HR (-1) M _ _ _ _ (Option.some.inj hf).symm (inL rfl) w dX10_holds_47
    · replace hf := ite_f cd_2 hf
      refine lv_aload_n hx hb dX10_holds_26 rfl (lv_at hl 0 rfl) ?_
      refine g_getr X w fg_X10_10 KD_0 FR_0_0 dX10_holds_27 ?_
      refine lv_iload_n hx hb dX10_holds_30 rfl (lv_at hl 3 rfl) ?_
      obtain ⟨r_3, hc, hf⟩ := obn_some hf
      refine g_cvi (As := [.int (i2 p3)]) (rest := []) X w (k_X1_has X.2.2.1 p3 hp3 w.2.2 hc) lk_X10_120 cl_1 KD_3 ⟨rfl, rfl⟩ ⟨nle rfl, nle rfl⟩ ⟨nle rfl, nle rfl⟩ hl.1 rfl (nle rfl) dX10_holds_31 (fun hr_3 H locs w => ?_)
      refine g_if_eq (tgt := 46) X hr_3 dX10_holds_34 (by decide) (fun cd_3 => ?_) (fun cd_3 => ?_)
      · replace hf := ite_t cd_3 hf
        refine g_iconst X dX10_holds_46 ?_
        exact HR (-1) M _ _ _ _ (Option.some.inj hf).symm (inL rfl) w dX10_holds_47
      · replace hf := ite_f cd_3 hf
        refine lv_aload_n hx hb dX10_holds_37 rfl (lv_at hl 0 rfl) ?_
        refine lv_iload hx hb dX10_holds_38 (lv_at hl 4 rfl) ?_
        obtain ⟨r_4, hc, hf⟩ := obn_some hf
        refine g_cvi (As := [.int (i2 p4)]) (rest := []) X w (k_X10_isDay X.2.2.1 p4 hp4 w.2.2 hc) lk_X10_180 cl_10 KD_0 ⟨rfl, rfl⟩ ⟨nle rfl, nle rfl⟩ ⟨nle rfl, nle rfl⟩ hl.1 rfl (nle rfl) dX10_holds_40 (fun hr_4 H locs w => ?_)
        refine g_if_ne (tgt := 48) X hr_4 dX10_holds_43 (by decide) (fun cd_4 => ?_) (fun cd_4 => ?_)
        · replace hf := ite_f cd_4 hf
          refine lv_aload_n hx hb dX10_holds_48 rfl (lv_at hl 0 rfl) ?_
          obtain ⟨hru_2, hf⟩ := gd_some hf
          refine g_getd X w fg_X10_94 KD_0 FR_0_11 hru_2 dX10_holds_49 ?_
          refine lv_iload_n hx hb dX10_holds_52 rfl (lv_at hl 1 rfl) ?_
          refine lv_iload_n hx hb dX10_holds_53 rfl (lv_at hl 2 rfl) ?_
          obtain ⟨r_5, hc, hf⟩ := obn_some hf
          refine g_cvi (As := [.int (i2 p1), .int (i2 p2)]) (rest := []) X w (k_X7_takesTerms X.2.2.1 (M 0 11) hru_2 p1 hp1 p2 hp2 w.2.2 hc) lk_X10_183 cl_7 (KD_ru hru_2) ⟨rfl, rfl⟩ ⟨nle rfl, nle rfl⟩ ⟨nle rfl, nle rfl⟩ hl.1 rfl (nle rfl) dX10_holds_54 (fun hr_5 H locs w => ?_)
          refine g_if_ne (tgt := 62) X hr_5 dX10_holds_57 (by decide) (fun cd_5 => ?_) (fun cd_5 => ?_)
          · replace hf := ite_f cd_5 hf
            refine lv_aload_n hx hb dX10_holds_62 rfl (lv_at hl 0 rfl) ?_
            refine g_getr X w fg_X10_44 KD_0 FR_0_4 dX10_holds_63 ?_
            refine lv_aload_n hx hb dX10_holds_66 rfl (lv_at hl 0 rfl) ?_
            obtain ⟨hru_3, hf⟩ := gd_some hf
            refine g_getd X w fg_X10_94 KD_0 FR_0_11 hru_3 dX10_holds_67 ?_
            refine lv_iload hx hb dX10_holds_70 (lv_at hl 4 rfl) ?_
            obtain ⟨M_2, hc, hf⟩ := obn_some hf
            refine g_cvv (As := [.ref (ad ((M 0 11).toNat)), .int (i2 p4)]) (rest := []) X w (k_X4_prepare X.2.2.1 (M 0 11) hru_3 p4 hp4 w.2.2 hc) lk_X10_186 cl_4 KD_30 ⟨rfl, rfl⟩ ⟨nle rfl, nle rfl⟩ ⟨nle rfl, nle rfl⟩ hl.1 rfl (nle rfl) dX10_holds_72 (fun H locs w_M_2 => ?_)
            refine lv_aload_n hx hb dX10_holds_75 rfl (lv_at hl 0 rfl) ?_
            refine g_getr X w_M_2 fg_X10_44 KD_0 FR_0_4 dX10_holds_76 ?_
            refine lv_iload_n hx hb dX10_holds_79 rfl (lv_at hl 1 rfl) ?_
            refine g_iconst X dX10_holds_80 ?_
            refine g_imul X dX10_holds_81 ?_
            refine lv_iload_n hx hb dX10_holds_82 rfl (lv_at hl 2 rfl) ?_
            refine g_iadd X dX10_holds_83 ?_
            refine lv_iload_n hx hb dX10_holds_84 rfl (lv_at hl 3 rfl) ?_
            obtain ⟨r_6, hc, hf⟩ := obn_some hf
            refine g_cvi (As := [.int (i2 (wrap ((wrap (p1 * 2)) + p2))), .int (i2 p3)]) (rest := []) X w_M_2 (k_X4_meets X.2.2.1 (wrap ((wrap (p1 * 2)) + p2)) (inR_wrap _) p3 hp3 w_M_2.2.2 hc) lk_X10_190 cl_4 KD_30 ⟨rfl, rfl⟩ ⟨nle rfl, nle rfl⟩ ⟨nle rfl, nle rfl⟩ hl.1 rfl (nle rfl) dX10_holds_85 (fun hr_6 H locs w_M_2 => ?_)
            refine g_if_eq (tgt := 95) X hr_6 dX10_holds_88 (by decide) (fun cd_6 => ?_) (fun cd_6 => ?_)
            · replace hf := ite_t cd_6 hf
              refine g_iconst X dX10_holds_95 ?_
              exact HR 0 M_2 _ _ _ _ (Option.some.inj hf).symm (inL rfl) w_M_2 dX10_holds_96
            · replace hf := ite_f cd_6 hf
              refine g_iconst X dX10_holds_91 ?_
              refine lv_goto (tgt := 96) hx hb dX10_holds_92 (by decide) ?_
              exact HR 1 M_2 _ _ _ _ (Option.some.inj hf).symm (inL rfl) w_M_2 dX10_holds_96
          · replace hf := ite_t cd_5 hf
            refine g_iconst X dX10_holds_60 ?_
            exact HR (-1) M _ _ _ _ (Option.some.inj hf).symm (inL rfl) w dX10_holds_61
        · replace hf := ite_t cd_4 hf
          refine g_iconst X dX10_holds_46 ?_
          exact HR (-1) M _ _ _ _ (Option.some.inj hf).symm (inL rfl) w dX10_holds_47
set_option maxRecDepth 100000 in
set_option maxHeartbeats 4000000 in
theorem k_X10_holds {l : Launch} {D : va_G} {aC : Nat → ClassId} {ad : Nat → Nat} {sg : SG} (hi : Inj ad) (p1 : Int) (hp1 : inR p1) (p2 : Int) (hp2 : inR p2) (p3 : Int) (hp3 : inR p3) (p4 : Int) (hp4 : inR p4) {M : Mem} (hM : inM M) {r : Int} {M' : Mem} (hf : f_X10_holds p1 p2 p3 p4 M = some (r, M')) : MetI l D aC ad sg yX10_holds cX10_holds 5 (some .int) rm_X10_holds 0 0 [.ref (ad 0), .int (i2 p1), .int (i2 p2), .int (i2 p3), .int (i2 p4)] M r M' := by
  refine MetI.ofI (by decide +kernel) (nle rfl) hi hM (fun p e s m args below meth c Q H0 ls X hl w hret => ?_)
  exact b_X10_holds_0 X  (fun r1 M1 H locs pc ls eo hP w dg => by cases eo; exact hret H locs pc ls hP w dg) p1 hp1 p2 hp2 p3 hp3 p4 hp4 M hf hl w
set_option maxRecDepth 100000 in
set_option maxHeartbeats 4000000 in
theorem b_X10_day_j50 (X : CX p s m args c cX10_day 2 RX10 D aC ad sg A H0) {o : Int × Mem} (HR : ∀ (r : Int) (M1 : Mem) (H : Heap) (locs : List Loc) (pc : Nat) (ls : Array Slot), o = (r, M1) → inR r → WS D aC ad A H0 M1 H locs → decode cX10_day pc = .ok (.ireturn, 1) → W p l e rm_X10_day s m args below meth c H locs 0 0 Q (F0 m pc ls [.int (i2 r)])) (v1 : Int) (hv1 : inR v1) (M : Mem) (hf : f_X10_day_j50 v1 M = some o) {H : Heap} {locs : List Loc} {ls : Array Slot} (hl : lv_has ls 2 [(0, .ref (ad 0)), (1, .int (i2 v1))]) (w : WS D aC ad A H0 M H locs) : W p l e rm_X10_day s m args below meth c H locs 0 0 Q (F0 m 50 ls []) := by
  have hx := X.1.1
  have hb := X.1.2.1
  unfold f_X10_day_j50 at hf
  refine lv_aload_n hx hb dX10_day_50 rfl (lv_at hl 0 rfl) ?_
  refine g_iconst X dX10_day_51 ?_
  obtain ⟨M_2, eM_2, hf⟩ := lt_some hf
  refine g_putz X w fp_X10_109 KD_0 FR_0_16 (Or.inl rfl) dX10_day_52 (fun H locs w_M_2 => ?_)
  rw [← eM_2] at w_M_2
  refine lv_aload_n hx hb dX10_day_55 rfl (lv_at hl 0 rfl) ?_
  refine lv_dup hx hb dX10_day_56 rfl ?_
  refine g_geti X w_M_2 fg_X10_113 KD_0 FR_0_13 dX10_day_57 ?_
  refine lv_iload_n hx hb dX10_day_60 rfl (lv_at hl 1 rfl) ?_
  refine g_iadd X dX10_day_61 ?_
  obtain ⟨M_3, eM_3, hf⟩ := lt_some hf
  refine g_puti X w_M_2 fp_X10_113 KD_0 FR_0_13 (inR_wrap _) dX10_day_62 (fun H locs w_M_3 => ?_)
  rw [← eM_3] at w_M_3
  refine lv_aload_n hx hb dX10_day_65 rfl (lv_at hl 0 rfl) ?_
  refine g_geti X w_M_3 fg_X10_113 KD_0 FR_0_13 dX10_day_66 ?_
  exact HR (M_3 0 13) M_3 _ _ _ _ (Option.some.inj hf).symm (w_M_3.2.2 _ _) w_M_3 dX10_day_69
set_option maxRecDepth 100000 in
set_option maxHeartbeats 4000000 in
theorem b_X10_day_0 (X : CX p s m args c cX10_day 2 RX10 D aC ad sg A H0) {o : Int × Mem} (HR : ∀ (r : Int) (M1 : Mem) (H : Heap) (locs : List Loc) (pc : Nat) (ls : Array Slot), o = (r, M1) → inR r → WS D aC ad A H0 M1 H locs → decode cX10_day pc = .ok (.ireturn, 1) → W p l e rm_X10_day s m args below meth c H locs 0 0 Q (F0 m pc ls [.int (i2 r)])) (p1 : Int) (hp1 : inR p1) (M : Mem) (hf : f_X10_day p1 M = some o) {H : Heap} {locs : List Loc} {ls : Array Slot} (hl : lv_has ls 2 [(0, .ref (ad 0)), (1, .int (i2 p1))]) (w : WS D aC ad A H0 M H locs) : W p l e rm_X10_day s m args below meth c H locs 0 0 Q (F0 m 0 ls []) := by
  have hx := X.1.1
  have hb := X.1.2.1
  unfold f_X10_day at hf
  refine lv_iload_n hx hb dX10_day_0 rfl (lv_at hl 1 rfl) ?_
  refine g_iconst X dX10_day_1 ?_
  refine g_sipush X dX10_day_2 (by decide) ?_
  obtain ⟨r, hc, hf⟩ := obn_some hf
  refine g_csi (As := [.int (i2 p1), .int (i2 0), .int (i2 1000)]) (rest := []) X w (k_X10_within X.2.2.1 p1 hp1 0 (inL rfl) 1000 (inL rfl) w.2.2 hc) lk_X10_105 ⟨rfl, rfl⟩ ⟨nle rfl, nle rfl⟩ ⟨nle rfl, nle rfl⟩ hl.1 rfl (nle rfl) dX10_day_5 (fun hr H locs w => ?_)
  refine g_if_eq (tgt := 22) X hr dX10_day_8 (by decide) (fun cd => ?_) (fun cd => ?_)
  · replace hf := ite_t cd hf
    refine g_iconst X dX10_day_22 ?_
    exact HR (-1) M _ _ _ _ (Option.some.inj hf).symm (inL rfl) w dX10_day_23
  · replace hf := ite_f cd hf
    refine lv_aload_n hx hb dX10_day_11 rfl (lv_at hl 0 rfl) ?_
    refine g_geti X w fg_X10_113 KD_0 FR_0_13 dX10_day_12 ?_
    refine lv_iload_n hx hb dX10_day_15 rfl (lv_at hl 1 rfl) ?_
    refine g_iadd X dX10_day_16 ?_
    refine g_ldc X kc_X10_193 dX10_day_17 ?_
    refine g_icmp_le (tgt := 24) X (inR_wrap _) (inL rfl) dX10_day_19 (by decide) (fun cd_2 => ?_) (fun cd_2 => ?_)
    · replace hf := ite_t cd_2 hf
      refine lv_iload_n hx hb dX10_day_24 rfl (lv_at hl 1 rfl) ?_
      refine g_if_le (tgt := 50) X hp1 dX10_day_25 (by decide) (fun cd_3 => ?_) (fun cd_3 => ?_)
      · replace hf := ite_t cd_3 hf
        refine lv_aload_n hx hb dX10_day_50 rfl (lv_at hl 0 rfl) ?_
        refine g_iconst X dX10_day_51 ?_
        obtain ⟨M_2, eM_2, hf⟩ := lt_some hf
        refine g_putz X w fp_X10_109 KD_0 FR_0_16 (Or.inl rfl) dX10_day_52 (fun H locs w_M_2 => ?_)
        rw [← eM_2] at w_M_2
        refine lv_aload_n hx hb dX10_day_55 rfl (lv_at hl 0 rfl) ?_
        refine lv_dup hx hb dX10_day_56 rfl ?_
        refine g_geti X w_M_2 fg_X10_113 KD_0 FR_0_13 dX10_day_57 ?_
        refine lv_iload_n hx hb dX10_day_60 rfl (lv_at hl 1 rfl) ?_
        refine g_iadd X dX10_day_61 ?_
        obtain ⟨M_3, eM_3, hf⟩ := lt_some hf
        refine g_puti X w_M_2 fp_X10_113 KD_0 FR_0_13 (inR_wrap _) dX10_day_62 (fun H locs w_M_3 => ?_)
        rw [← eM_3] at w_M_3
        refine lv_aload_n hx hb dX10_day_65 rfl (lv_at hl 0 rfl) ?_
        refine g_geti X w_M_3 fg_X10_113 KD_0 FR_0_13 dX10_day_66 ?_
        exact HR (M_3 0 13) M_3 _ _ _ _ (Option.some.inj hf).symm (w_M_3.2.2 _ _) w_M_3 dX10_day_69
      · replace hf := ite_f cd_3 hf
        refine lv_aload_n hx hb dX10_day_28 rfl (lv_at hl 0 rfl) ?_
        refine g_getr X w fg_X10_74 KD_0 FR_0_8 dX10_day_29 ?_
        refine lv_aload_n hx hb dX10_day_32 rfl (lv_at hl 0 rfl) ?_
        refine g_getr X w fg_X10_78 KD_0 FR_0_9 dX10_day_33 ?_
        refine lv_aload_n hx hb dX10_day_36 rfl (lv_at hl 0 rfl) ?_
        refine g_getr X w fg_X10_10 KD_0 FR_0_0 dX10_day_37 ?_
        refine g_geti X w fg_X10_194 KD_3 FR_3_0 dX10_day_40 ?_
        refine lv_aload_n hx hb dX10_day_43 rfl (lv_at hl 0 rfl) ?_
        refine g_geti X w fg_X10_113 KD_0 FR_0_13 dX10_day_44 ?_
        obtain ⟨M_4, hc, hf⟩ := obn_some hf
        refine g_cvv (As := [.ref (ad 1), .int (i2 (M 3 0)), .int (i2 (M 0 13))]) (rest := []) X w (k_X0_write X.2.2.1 1 KA_1 (M 3 0) (w.2.2 _ _) (M 0 13) (w.2.2 _ _) w.2.2 hc) lk_X10_195 cl_0 KD_57 ⟨rfl, rfl⟩ ⟨nle rfl, nle rfl⟩ ⟨nle rfl, nle rfl⟩ hl.1 rfl (nle rfl) dX10_day_47 (fun H locs w_M_4 => ?_)
        exact b_X10_day_j50 X  HR p1 hp1 M_4 hf hl w_M_4
    · replace hf := ite_f cd_2 hf
      refine g_iconst X dX10_day_22 ?_
      exact HR (-1) M _ _ _ _ (Option.some.inj hf).symm (inL rfl) w dX10_day_23
set_option maxRecDepth 100000 in
set_option maxHeartbeats 4000000 in
theorem k_X10_day {l : Launch} {D : va_G} {aC : Nat → ClassId} {ad : Nat → Nat} {sg : SG} (hi : Inj ad) (p1 : Int) (hp1 : inR p1) {M : Mem} (hM : inM M) {r : Int} {M' : Mem} (hf : f_X10_day p1 M = some (r, M')) : MetI l D aC ad sg yX10_day cX10_day 2 (some .int) rm_X10_day 0 0 [.ref (ad 0), .int (i2 p1)] M r M' := by
  refine MetI.ofI (by decide +kernel) (nle rfl) hi hM (fun p e s m args below meth c Q H0 ls X hl w hret => ?_)
  exact b_X10_day_0 X  (fun r1 M1 H locs pc ls eo hP w dg => by cases eo; exact hret H locs pc ls hP w dg) p1 hp1 M hf hl w
set_option maxRecDepth 100000 in
set_option maxHeartbeats 4000000 in
theorem b_X10_plan_0 (X : CX p s m args c cX10_plan 2 RX10 D aC ad sg A H0) {o : Int × Mem} (HR : ∀ (r : Int) (M1 : Mem) (H : Heap) (locs : List Loc) (pc : Nat) (ls : Array Slot), o = (r, M1) → inR r → WS D aC ad A H0 M1 H locs → decode cX10_plan pc = .ok (.ireturn, 1) → W p l e rm_X10_plan s m args below meth c H locs 0 0 Q (F0 m pc ls [.int (i2 r)])) (p1 : Int) (hp1 : inR p1) (M : Mem) (hf : f_X10_plan p1 M = some o) {H : Heap} {locs : List Loc} {ls : Array Slot} (hl : lv_has ls 2 [(0, .ref (ad 0)), (1, .int (i2 p1))]) (w : WS D aC ad A H0 M H locs) : W p l e rm_X10_plan s m args below meth c H locs 0 0 Q (F0 m 0 ls []) := by
  have hx := X.1.1
  have hb := X.1.2.1
  unfold f_X10_plan at hf
  refine lv_aload_n hx hb dX10_plan_0 rfl (lv_at hl 0 rfl) ?_
  refine lv_iload_n hx hb dX10_plan_1 rfl (lv_at hl 1 rfl) ?_
  obtain ⟨r, M_2, hc, hf⟩ := bnd_some hf
  refine g_cvi (As := [.int (i2 p1)]) (rest := []) X w (k_X10_bestPlan X.2.2.1 p1 hp1 w.2.2 hc) lk_X10_199 cl_10 KD_0 ⟨rfl, rfl⟩ ⟨nle rfl, nle rfl⟩ ⟨nle rfl, nle rfl⟩ hl.1 rfl (nle rfl) dX10_plan_2 (fun hr H locs w_M_2 => ?_)
  exact HR r M_2 _ _ _ _ (Option.some.inj hf).symm hr w_M_2 dX10_plan_5
set_option maxRecDepth 100000 in
set_option maxHeartbeats 4000000 in
theorem k_X10_plan {l : Launch} {D : va_G} {aC : Nat → ClassId} {ad : Nat → Nat} {sg : SG} (hi : Inj ad) (p1 : Int) (hp1 : inR p1) {M : Mem} (hM : inM M) {r : Int} {M' : Mem} (hf : f_X10_plan p1 M = some (r, M')) : MetI l D aC ad sg yX10_plan cX10_plan 2 (some .int) rm_X10_plan 0 0 [.ref (ad 0), .int (i2 p1)] M r M' := by
  refine MetI.ofI (by decide +kernel) (nle rfl) hi hM (fun p e s m args below meth c Q H0 ls X hl w hret => ?_)
  exact b_X10_plan_0 X  (fun r1 M1 H locs pc ls eo hP w dg => by cases eo; exact hret H locs pc ls hP w dg) p1 hp1 M hf hl w
set_option maxRecDepth 100000 in
set_option maxHeartbeats 4000000 in
theorem b_X10_planned_0 (X : CX p s m args c cX10_planned 3 RX10 D aC ad sg A H0) {o : Int × Mem} (HR : ∀ (r : Int) (M1 : Mem) (H : Heap) (locs : List Loc) (pc : Nat) (ls : Array Slot), o = (r, M1) → inR r → WS D aC ad A H0 M1 H locs → decode cX10_planned pc = .ok (.ireturn, 1) → W p l e rm_X10_planned s m args below meth c H locs 0 0 Q (F0 m pc ls [.int (i2 r)])) (p1 : Int) (hp1 : inR p1) (p2 : Int) (hp2 : inR p2) (M : Mem) (hf : f_X10_planned p1 p2 M = some o) {H : Heap} {locs : List Loc} {ls : Array Slot} (hl : lv_has ls 3 [(0, .ref (ad 0)), (1, .int (i2 p1)), (2, .int (i2 p2))]) (w : WS D aC ad A H0 M H locs) : W p l e rm_X10_planned s m args below meth c H locs 0 0 Q (F0 m 0 ls []) := by
  have hx := X.1.1
  have hb := X.1.2.1
  unfold f_X10_planned at hf
  refine lv_aload_n hx hb dX10_planned_0 rfl (lv_at hl 0 rfl) ?_
  refine lv_iload_n hx hb dX10_planned_1 rfl (lv_at hl 1 rfl) ?_
  obtain ⟨r, M_2, hc, hf⟩ := bnd_some hf
  refine g_cvi (As := [.int (i2 p1)]) (rest := []) X w (k_X10_bestPlan X.2.2.1 p1 hp1 w.2.2 hc) lk_X10_199 cl_10 KD_0 ⟨rfl, rfl⟩ ⟨nle rfl, nle rfl⟩ ⟨nle rfl, nle rfl⟩ hl.1 rfl (nle rfl) dX10_planned_2 (fun hr H locs w_M_2 => ?_)
  refine g_if_ge (tgt := 10) X hr dX10_planned_5 (by decide) (fun cd => ?_) (fun cd => ?_)
  · replace hf := ite_t cd hf
    refine lv_aload_n hx hb dX10_planned_10 rfl (lv_at hl 0 rfl) ?_
    refine g_getr X w_M_2 fg_X10_53 KD_0 FR_0_5 dX10_planned_11 ?_
    refine lv_iload_n hx hb dX10_planned_14 rfl (lv_at hl 2 rfl) ?_
    obtain ⟨r_2, hc, hf⟩ := obn_some hf
    refine g_cvi (As := [.int (i2 p2)]) (rest := []) X w_M_2 (k_X8_seatOf X.2.2.1 p2 hp2 w_M_2.2.2 hc) lk_X10_203 cl_8 KD_35 ⟨rfl, rfl⟩ ⟨nle rfl, nle rfl⟩ ⟨nle rfl, nle rfl⟩ hl.1 rfl (nle rfl) dX10_planned_15 (fun hr_2 H locs w_M_2 => ?_)
    exact HR r_2 M_2 _ _ _ _ (Option.some.inj hf).symm hr_2 w_M_2 dX10_planned_18
  · replace hf := ite_f cd hf
    refine g_iconst X dX10_planned_8 ?_
    exact HR (-1) M_2 _ _ _ _ (Option.some.inj hf).symm (inL rfl) w_M_2 dX10_planned_9
set_option maxRecDepth 100000 in
set_option maxHeartbeats 4000000 in
theorem k_X10_planned {l : Launch} {D : va_G} {aC : Nat → ClassId} {ad : Nat → Nat} {sg : SG} (hi : Inj ad) (p1 : Int) (hp1 : inR p1) (p2 : Int) (hp2 : inR p2) {M : Mem} (hM : inM M) {r : Int} {M' : Mem} (hf : f_X10_planned p1 p2 M = some (r, M')) : MetI l D aC ad sg yX10_planned cX10_planned 3 (some .int) rm_X10_planned 0 0 [.ref (ad 0), .int (i2 p1), .int (i2 p2)] M r M' := by
  refine MetI.ofI (by decide +kernel) (nle rfl) hi hM (fun p e s m args below meth c Q H0 ls X hl w hret => ?_)
  exact b_X10_planned_0 X  (fun r1 M1 H locs pc ls eo hP w dg => by cases eo; exact hret H locs pc ls hP w dg) p1 hp1 p2 hp2 M hf hl w
set_option maxRecDepth 100000 in
set_option maxHeartbeats 4000000 in
theorem b_X10_takeSearched_s2 (X : CX p s m args c cX10_takeSearched 2 RX10 D aC ad sg A H0) {o : (Int × Mem) ⊕ (Int × Mem)} (HC : ∀ (y1 : Int) (M1 : Mem) (H : Heap) (locs : List Loc) (ls : Array Slot), o = .inl (y1, M1) → inR y1 → lv_has ls 2 [(0, .ref (ad 0)), (1, .int (i2 y1))] → WS D aC ad A H0 M1 H locs → W p l e rm_X10_takeSearched s m args below meth c H locs 0 0 Q (F0 m 2 ls [])) (HE : ∀ (y1 : Int) (M1 : Mem) (H : Heap) (locs : List Loc) (ls : Array Slot), o = .inr (y1, M1) → inR y1 → lv_has ls 2 [(0, .ref (ad 0)), (1, .int (i2 y1))] → WS D aC ad A H0 M1 H locs → W p l e rm_X10_takeSearched s m args below meth c H locs 0 0 Q (F0 m 33 ls [])) (v1 : Int) (hv1 : inR v1) (M : Mem) (hf : f_X10_takeSearched_s2 v1 M = some o) {H : Heap} {locs : List Loc} {ls : Array Slot} (hl : lv_has ls 2 [(0, .ref (ad 0)), (1, .int (i2 v1))]) (w : WS D aC ad A H0 M H locs) : W p l e rm_X10_takeSearched s m args below meth c H locs 0 0 Q (F0 m 2 ls []) := by
  have hx := X.1.1
  have hb := X.1.2.1
  unfold f_X10_takeSearched_s2 at hf
  refine lv_iload_n hx hb dX10_takeSearched_2 rfl (lv_at hl 1 rfl) ?_
  refine lv_aload_n hx hb dX10_takeSearched_3 rfl (lv_at hl 0 rfl) ?_
  refine g_getr X w fg_X10_10 KD_0 FR_0_0 dX10_takeSearched_4 ?_
  refine g_geti X w fg_X10_194 KD_3 FR_3_0 dX10_takeSearched_7 ?_
  refine g_icmp_ge (tgt := 33) X hv1 (w.2.2 _ _) dX10_takeSearched_10 (by decide) (fun cd => ?_) (fun cd => ?_)
  · replace hf := ite_t cd hf
    exact HE v1 M _ _ _ (Option.some.inj hf).symm hv1 hl w
  · replace hf := ite_f cd hf
    refine lv_aload_n hx hb dX10_takeSearched_13 rfl (lv_at hl 0 rfl) ?_
    refine g_getr X w fg_X10_78 KD_0 FR_0_9 dX10_takeSearched_14 ?_
    refine lv_iload_n hx hb dX10_takeSearched_17 rfl (lv_at hl 1 rfl) ?_
    refine lv_aload_n hx hb dX10_takeSearched_18 rfl (lv_at hl 0 rfl) ?_
    refine g_getr X w fg_X10_53 KD_0 FR_0_5 dX10_takeSearched_19 ?_
    refine lv_iload_n hx hb dX10_takeSearched_22 rfl (lv_at hl 1 rfl) ?_
    obtain ⟨r, hc, hf⟩ := obn_some hf
    refine g_cvi (As := [.int (i2 v1)]) (rest := [.int (i2 v1), .ref (ad 1)]) X w (k_X8_seatOf X.2.2.1 v1 hv1 w.2.2 hc) lk_X10_203 cl_8 KD_35 ⟨rfl, rfl⟩ ⟨nle rfl, nle rfl⟩ ⟨nle rfl, nle rfl⟩ hl.1 rfl (nle rfl) dX10_takeSearched_23 (fun hr H locs w => ?_)
    obtain ⟨hg, hf⟩ := gd_some hf
    obtain ⟨M_2, eM_2, hf⟩ := lt_some hf
    refine g_iast X w KD_1 hv1 hg hr dX10_takeSearched_26 (fun H locs w_M_2 => ?_)
    rw [← eM_2] at w_M_2
    obtain ⟨v1_2, ev1_2, hf⟩ := lt_some hf
    have hv1_2 : inR v1_2 := inR_of ev1_2 (inR_wrap _)
    refine lv_iinc (v := i2 v1_2) (lv' := [(1, .int (i2 v1_2)), (0, .ref (ad 0))]) hx hb dX10_takeSearched_27 hl (k := 1) rfl (by rw [ev1_2]; exact i2_add _ _) (by decide) rfl (fun ls hl => ?_)
    refine lv_goto (tgt := 2) hx hb dX10_takeSearched_30 (by decide) ?_
    exact HC v1_2 M_2 _ _ _ (Option.some.inj hf).symm hv1_2 (lv_sub hl [1, 0] rfl) w_M_2
set_option maxRecDepth 100000 in
set_option maxHeartbeats 4000000 in
theorem l_X10_takeSearched_2 (X : CX p s m args c cX10_takeSearched 2 RX10 D aC ad sg A H0) {out : Int × Mem} (HE : ∀ (y1 : Int) (M1 : Mem) (H : Heap) (locs : List Loc) (ls : Array Slot), out = (y1, M1) → inR y1 → lv_has ls 2 [(0, .ref (ad 0)), (1, .int (i2 y1))] → WS D aC ad A H0 M1 H locs → W p l e rm_X10_takeSearched s m args below meth c H locs 0 0 Q (F0 m 33 ls [])) : ∀ (n : Nat) (v1 : Int) (M : Mem), whl (fun s => f_X10_takeSearched_s2 s.1 s.2) n (v1, M) = some out → inR v1 → ∀ {H : Heap} {locs : List Loc} {ls : Array Slot}, lv_has ls 2 [(0, .ref (ad 0)), (1, .int (i2 v1))] → WS D aC ad A H0 M H locs → W p l e rm_X10_takeSearched s m args below meth c H locs 0 0 Q (F0 m 2 ls []) := by
  intro n
  induction n with
  | zero => intro v1 M hf; exact (whl_zero hf).elim
  | succ n ih =>
    intro v1 M hf hv1 H locs ls hl w
    obtain ⟨o, hf, hk1, hk2⟩ := whl_step hf
    exact b_X10_takeSearched_s2 X  (fun y1 M1 H locs ls eo hy1 hl w => ih y1 M1 (hk1 _ eo) hy1 hl w) (fun y1 M1 H locs ls eo hy1 hl w => HE y1 M1 H locs ls (hk2 _ eo).symm hy1 hl w) v1 hv1 M hf hl w
set_option maxRecDepth 100000 in
set_option maxHeartbeats 4000000 in
theorem b_X10_takeSearched_j33 (X : CX p s m args c cX10_takeSearched 2 RX10 D aC ad sg A H0) {o : Mem} (HR : ∀ (M1 : Mem) (H : Heap) (locs : List Loc) (pc : Nat) (ls : Array Slot), o = M1 → WS D aC ad A H0 M1 H locs → decode cX10_takeSearched pc = .ok (.return_, 1) → W p l e rm_X10_takeSearched s m args below meth c H locs 0 0 Q (F0 m pc ls [])) (M : Mem) (hf : f_X10_takeSearched_j33 M = some o) {H : Heap} {locs : List Loc} {ls : Array Slot} (hl : lv_has ls 2 []) (w : WS D aC ad A H0 M H locs) : W p l e rm_X10_takeSearched s m args below meth c H locs 0 0 Q (F0 m 33 ls []) := by
  have hx := X.1.1
  have hb := X.1.2.1
  unfold f_X10_takeSearched_j33 at hf
  exact HR M _ _ _ _ (Option.some.inj hf).symm w dX10_takeSearched_33
set_option maxRecDepth 100000 in
set_option maxHeartbeats 4000000 in
theorem b_X10_takeSearched_0 (X : CX p s m args c cX10_takeSearched 2 RX10 D aC ad sg A H0) {o : Mem} (HR : ∀ (M1 : Mem) (H : Heap) (locs : List Loc) (pc : Nat) (ls : Array Slot), o = M1 → WS D aC ad A H0 M1 H locs → decode cX10_takeSearched pc = .ok (.return_, 1) → W p l e rm_X10_takeSearched s m args below meth c H locs 0 0 Q (F0 m pc ls [])) (M : Mem) (hf : f_X10_takeSearched M = some o) {H : Heap} {locs : List Loc} {ls : Array Slot} (hl : lv_has ls 2 [(0, .ref (ad 0))]) (w : WS D aC ad A H0 M H locs) : W p l e rm_X10_takeSearched s m args below meth c H locs 0 0 Q (F0 m 0 ls []) := by
  have hx := X.1.1
  have hb := X.1.2.1
  unfold f_X10_takeSearched at hf
  refine g_iconst X dX10_takeSearched_0 ?_
  refine g_istn (v := 0) (lv' := [(1, .int (i2 0)), (0, .ref (ad 0))]) X rfl dX10_takeSearched_1 rfl hl (by decide) rfl (fun ls hl => ?_)
  obtain ⟨q, hq, h1⟩ := obn_some hf
  exact l_X10_takeSearched_2 X  (out := q) (fun y1 M1 H locs ls eq hy1 hl w => b_X10_takeSearched_j33 X  HR M1 (by subst eq; exact h1) (lv_sub hl [] rfl) w)  FU 0 M hq (inL rfl) (lv_sub hl [1, 0] rfl) w
set_option maxRecDepth 100000 in
set_option maxHeartbeats 4000000 in
theorem k_X10_takeSearched {l : Launch} {D : va_G} {aC : Nat → ClassId} {ad : Nat → Nat} {sg : SG} (hi : Inj ad)  {M : Mem} (hM : inM M) {M' : Mem} (hf : f_X10_takeSearched M = some M') : MetV l D aC ad sg yX10_takeSearched cX10_takeSearched 2 rm_X10_takeSearched 0 0 [.ref (ad 0)] M M' := by
  refine MetV.of (by decide +kernel) (nle rfl) hi hM (fun p e s m args below meth c Q H0 ls X hl w hret => ?_)
  exact b_X10_takeSearched_0 X  (fun M1 H locs pc ls eo w dg => by cases eo; exact hret H locs pc ls w dg) M hf hl w
set_option maxRecDepth 100000 in
set_option maxHeartbeats 4000000 in
theorem b_X10_keep_0 (X : CX p s m args c cX10_keep 2 RX10 D aC ad sg A H0) {o : Int × Mem} (HR : ∀ (r : Int) (M1 : Mem) (H : Heap) (locs : List Loc) (pc : Nat) (ls : Array Slot), o = (r, M1) → inR r → WS D aC ad A H0 M1 H locs → decode cX10_keep pc = .ok (.ireturn, 1) → W p l e rm_X10_keep s m args below meth c H locs 0 0 Q (F0 m pc ls [.int (i2 r)])) (M : Mem) (hf : f_X10_keep M = some o) {H : Heap} {locs : List Loc} {ls : Array Slot} (hl : lv_has ls 2 [(0, .ref (ad 0))]) (w : WS D aC ad A H0 M H locs) : W p l e rm_X10_keep s m args below meth c H locs 0 0 Q (F0 m 0 ls []) := by
  have hx := X.1.1
  have hb := X.1.2.1
  unfold f_X10_keep at hf
  refine lv_aload_n hx hb dX10_keep_0 rfl (lv_at hl 0 rfl) ?_
  refine lv_aload_n hx hb dX10_keep_1 rfl (lv_at hl 0 rfl) ?_
  refine g_geti X w fg_X10_113 KD_0 FR_0_13 dX10_keep_2 ?_
  obtain ⟨r, M_2, hc, hf⟩ := bnd_some hf
  refine g_cvi (As := [.int (i2 (M 0 13))]) (rest := []) X w (k_X10_bestPlan X.2.2.1 (M 0 13) (w.2.2 _ _) w.2.2 hc) lk_X10_199 cl_10 KD_0 ⟨rfl, rfl⟩ ⟨nle rfl, nle rfl⟩ ⟨nle rfl, nle rfl⟩ hl.1 rfl (nle rfl) dX10_keep_5 (fun hr H locs w_M_2 => ?_)
  refine g_istn (v := r) (lv' := [(1, .int (i2 r)), (0, .ref (ad 0))]) X rfl dX10_keep_8 rfl hl (by decide) rfl (fun ls hl => ?_)
  refine lv_iload_n hx hb dX10_keep_9 rfl (lv_at hl 0 rfl) ?_
  refine g_if_lt (tgt := 17) X hr dX10_keep_10 (by decide) (fun cd => ?_) (fun cd => ?_)
  · replace hf := ite_t cd hf
    refine lv_iload_n hx hb dX10_keep_17 rfl (lv_at hl 0 rfl) ?_
    exact HR r M_2 _ _ _ _ (Option.some.inj hf).symm hr w_M_2 dX10_keep_18
  · replace hf := ite_f cd hf
    refine lv_aload_n hx hb dX10_keep_13 rfl (lv_at hl 1 rfl) ?_
    obtain ⟨M_3, hc, hf⟩ := obn_some hf
    refine g_cvv (As := []) (rest := []) X w_M_2 (k_X10_takeSearched X.2.2.1  w_M_2.2.2 hc) lk_X10_206 cl_10 KD_0 ⟨rfl, rfl⟩ ⟨nle rfl, nle rfl⟩ ⟨nle rfl, nle rfl⟩ hl.1 rfl (nle rfl) dX10_keep_14 (fun H locs w_M_3 => ?_)
    refine lv_iload_n hx hb dX10_keep_17 rfl (lv_at hl 0 rfl) ?_
    exact HR r M_3 _ _ _ _ (Option.some.inj hf).symm hr w_M_3 dX10_keep_18
set_option maxRecDepth 100000 in
set_option maxHeartbeats 4000000 in
theorem k_X10_keep {l : Launch} {D : va_G} {aC : Nat → ClassId} {ad : Nat → Nat} {sg : SG} (hi : Inj ad)  {M : Mem} (hM : inM M) {r : Int} {M' : Mem} (hf : f_X10_keep M = some (r, M')) : MetI l D aC ad sg yX10_keep cX10_keep 2 (some .int) rm_X10_keep 0 0 [.ref (ad 0)] M r M' := by
  refine MetI.ofI (by decide +kernel) (nle rfl) hi hM (fun p e s m args below meth c Q H0 ls X hl w hret => ?_)
  exact b_X10_keep_0 X  (fun r1 M1 H locs pc ls eo hP w dg => by cases eo; exact hret H locs pc ls hP w dg) M hf hl w
set_option maxRecDepth 100000 in
set_option maxHeartbeats 4000000 in
theorem b_X10_make_s60 (X : CX p s m args c cX10_make 2 RX10 D aC ad sg A H0) {o : (Int × Mem) ⊕ (Int × Mem)} (HC : ∀ (y1 : Int) (M1 : Mem) (H : Heap) (locs : List Loc) (ls : Array Slot), o = .inl (y1, M1) → inR y1 → lv_has ls 2 [(0, .ref (ad 0)), (1, .int (i2 y1))] → WS D aC ad A H0 M1 H locs → W p l e rm_X10_make s m args below meth c H locs 0 0 Q (F0 m 60 ls [])) (HE : ∀ (y1 : Int) (M1 : Mem) (H : Heap) (locs : List Loc) (ls : Array Slot), o = .inr (y1, M1) → inR y1 → lv_has ls 2 [(0, .ref (ad 0)), (1, .int (i2 y1))] → WS D aC ad A H0 M1 H locs → W p l e rm_X10_make s m args below meth c H locs 0 0 Q (F0 m 92 ls [])) (v1 : Int) (hv1 : inR v1) (M : Mem) (hf : f_X10_make_s60 v1 M = some o) {H : Heap} {locs : List Loc} {ls : Array Slot} (hl : lv_has ls 2 [(0, .ref (ad 0)), (1, .int (i2 v1))]) (w : WS D aC ad A H0 M H locs) : W p l e rm_X10_make s m args below meth c H locs 0 0 Q (F0 m 60 ls []) := by
  have hx := X.1.1
  have hb := X.1.2.1
  unfold f_X10_make_s60 at hf
  refine lv_iload_n hx hb dX10_make_60 rfl (lv_at hl 1 rfl) ?_
  refine lv_aload_n hx hb dX10_make_61 rfl (lv_at hl 0 rfl) ?_
  refine g_getr X w fg_X10_10 KD_0 FR_0_0 dX10_make_62 ?_
  refine g_geti X w fg_X10_194 KD_3 FR_3_0 dX10_make_65 ?_
  refine g_icmp_ge (tgt := 92) X hv1 (w.2.2 _ _) dX10_make_68 (by decide) (fun cd => ?_) (fun cd => ?_)
  · replace hf := ite_t cd hf
    exact HE v1 M _ _ _ (Option.some.inj hf).symm hv1 hl w
  · replace hf := ite_f cd hf
    refine lv_aload_n hx hb dX10_make_71 rfl (lv_at hl 0 rfl) ?_
    refine g_getr X w fg_X10_78 KD_0 FR_0_9 dX10_make_72 ?_
    refine lv_iload_n hx hb dX10_make_75 rfl (lv_at hl 1 rfl) ?_
    refine lv_aload_n hx hb dX10_make_76 rfl (lv_at hl 0 rfl) ?_
    refine g_getr X w fg_X10_60 KD_0 FR_0_6 dX10_make_77 ?_
    refine g_getr X w fg_X10_219 KD_48 FR_48_3 dX10_make_80 ?_
    refine lv_iload_n hx hb dX10_make_83 rfl (lv_at hl 1 rfl) ?_
    obtain ⟨hg, hf⟩ := gd_some hf
    refine g_iald X w KD_50 hv1 hg dX10_make_84 ?_
    obtain ⟨hg_2, hf⟩ := gd_some hf
    obtain ⟨M_2, eM_2, hf⟩ := lt_some hf
    refine g_iast X w KD_1 hv1 hg_2 (w.2.2 _ _) dX10_make_85 (fun H locs w_M_2 => ?_)
    rw [← eM_2] at w_M_2
    obtain ⟨v1_2, ev1_2, hf⟩ := lt_some hf
    have hv1_2 : inR v1_2 := inR_of ev1_2 (inR_wrap _)
    refine lv_iinc (v := i2 v1_2) (lv' := [(1, .int (i2 v1_2)), (0, .ref (ad 0))]) hx hb dX10_make_86 hl (k := 1) rfl (by rw [ev1_2]; exact i2_add _ _) (by decide) rfl (fun ls hl => ?_)
    refine lv_goto (tgt := 60) hx hb dX10_make_89 (by decide) ?_
    exact HC v1_2 M_2 _ _ _ (Option.some.inj hf).symm hv1_2 (lv_sub hl [1, 0] rfl) w_M_2
set_option maxRecDepth 100000 in
set_option maxHeartbeats 4000000 in
theorem l_X10_make_60 (X : CX p s m args c cX10_make 2 RX10 D aC ad sg A H0) {out : Int × Mem} (HE : ∀ (y1 : Int) (M1 : Mem) (H : Heap) (locs : List Loc) (ls : Array Slot), out = (y1, M1) → inR y1 → lv_has ls 2 [(0, .ref (ad 0)), (1, .int (i2 y1))] → WS D aC ad A H0 M1 H locs → W p l e rm_X10_make s m args below meth c H locs 0 0 Q (F0 m 92 ls [])) : ∀ (n : Nat) (v1 : Int) (M : Mem), whl (fun s => f_X10_make_s60 s.1 s.2) n (v1, M) = some out → inR v1 → ∀ {H : Heap} {locs : List Loc} {ls : Array Slot}, lv_has ls 2 [(0, .ref (ad 0)), (1, .int (i2 v1))] → WS D aC ad A H0 M H locs → W p l e rm_X10_make s m args below meth c H locs 0 0 Q (F0 m 60 ls []) := by
  intro n
  induction n with
  | zero => intro v1 M hf; exact (whl_zero hf).elim
  | succ n ih =>
    intro v1 M hf hv1 H locs ls hl w
    obtain ⟨o, hf, hk1, hk2⟩ := whl_step hf
    exact b_X10_make_s60 X  (fun y1 M1 H locs ls eo hy1 hl w => ih y1 M1 (hk1 _ eo) hy1 hl w) (fun y1 M1 H locs ls eo hy1 hl w => HE y1 M1 H locs ls (hk2 _ eo).symm hy1 hl w) v1 hv1 M hf hl w
set_option maxRecDepth 100000 in
set_option maxHeartbeats 4000000 in
theorem b_X10_make_j92 (X : CX p s m args c cX10_make 2 RX10 D aC ad sg A H0) {o : Int × Mem} (HR : ∀ (r : Int) (M1 : Mem) (H : Heap) (locs : List Loc) (pc : Nat) (ls : Array Slot), o = (r, M1) → inR r → WS D aC ad A H0 M1 H locs → decode cX10_make pc = .ok (.ireturn, 1) → W p l e rm_X10_make s m args below meth c H locs 0 0 Q (F0 m pc ls [.int (i2 r)])) (M : Mem) (hf : f_X10_make_j92 M = some o) {H : Heap} {locs : List Loc} {ls : Array Slot} (hl : lv_has ls 2 [(0, .ref (ad 0))]) (w : WS D aC ad A H0 M H locs) : W p l e rm_X10_make s m args below meth c H locs 0 0 Q (F0 m 92 ls []) := by
  have hx := X.1.1
  have hb := X.1.2.1
  unfold f_X10_make_j92 at hf
  refine lv_aload_n hx hb dX10_make_92 rfl (lv_at hl 0 rfl) ?_
  refine g_getr X w fg_X10_60 KD_0 FR_0_6 dX10_make_93 ?_
  refine g_geti X w fg_X10_222 KD_48 FR_48_5 dX10_make_96 ?_
  refine g_if_eq (tgt := 107) X (w.2.2 _ _) dX10_make_99 (by decide) (fun cd => ?_) (fun cd => ?_)
  · replace hf := ite_t cd hf
    refine lv_aload_n hx hb dX10_make_107 rfl (lv_at hl 0 rfl) ?_
    refine g_getr X w fg_X10_60 KD_0 FR_0_6 dX10_make_108 ?_
    refine g_geti X w fg_X10_225 KD_48 FR_48_6 dX10_make_111 ?_
    exact HR (M 48 6) M _ _ _ _ (Option.some.inj hf).symm (w.2.2 _ _) w dX10_make_114
  · replace hf := ite_f cd hf
    refine g_bipush X dX10_make_102 (by decide) ?_
    refine lv_goto (tgt := 114) hx hb dX10_make_104 (by decide) ?_
    exact HR (-4) M _ _ _ _ (Option.some.inj hf).symm (inL rfl) w dX10_make_114
set_option maxRecDepth 100000 in
set_option maxHeartbeats 4000000 in
theorem b_X10_make_0 (X : CX p s m args c cX10_make 2 RX10 D aC ad sg A H0) {o : Int × Mem} (HR : ∀ (r : Int) (M1 : Mem) (H : Heap) (locs : List Loc) (pc : Nat) (ls : Array Slot), o = (r, M1) → inR r → WS D aC ad A H0 M1 H locs → decode cX10_make pc = .ok (.ireturn, 1) → W p l e rm_X10_make s m args below meth c H locs 0 0 Q (F0 m pc ls [.int (i2 r)])) (M : Mem) (hf : f_X10_make M = some o) {H : Heap} {locs : List Loc} {ls : Array Slot} (hl : lv_has ls 2 [(0, .ref (ad 0))]) (w : WS D aC ad A H0 M H locs) : W p l e rm_X10_make s m args below meth c H locs 0 0 Q (F0 m 0 ls []) := by
  have hx := X.1.1
  have hb := X.1.2.1
  unfold f_X10_make at hf
  refine lv_aload_n hx hb dX10_make_0 rfl (lv_at hl 0 rfl) ?_
  refine g_getr X w fg_X10_10 KD_0 FR_0_0 dX10_make_1 ?_
  refine g_geti X w fg_X10_194 KD_3 FR_3_0 dX10_make_4 ?_
  refine g_if_ne (tgt := 12) X (w.2.2 _ _) dX10_make_7 (by decide) (fun cd => ?_) (fun cd => ?_)
  · replace hf := ite_f cd hf
    refine lv_aload_n hx hb dX10_make_12 rfl (lv_at hl 0 rfl) ?_
    refine g_getr X w fg_X10_44 KD_0 FR_0_4 dX10_make_13 ?_
    refine lv_aload_n hx hb dX10_make_16 rfl (lv_at hl 0 rfl) ?_
    obtain ⟨hru, hf⟩ := gd_some hf
    refine g_getd X w fg_X10_94 KD_0 FR_0_11 hru dX10_make_17 ?_
    refine lv_aload_n hx hb dX10_make_20 rfl (lv_at hl 0 rfl) ?_
    refine g_geti X w fg_X10_113 KD_0 FR_0_13 dX10_make_21 ?_
    obtain ⟨M_2, hc, hf⟩ := obn_some hf
    refine g_cvv (As := [.ref (ad ((M 0 11).toNat)), .int (i2 (M 0 13))]) (rest := []) X w (k_X4_prepare X.2.2.1 (M 0 11) hru (M 0 13) (w.2.2 _ _) w.2.2 hc) lk_X10_186 cl_4 KD_30 ⟨rfl, rfl⟩ ⟨nle rfl, nle rfl⟩ ⟨nle rfl, nle rfl⟩ hl.1 rfl (nle rfl) dX10_make_24 (fun H locs w_M_2 => ?_)
    refine lv_aload_n hx hb dX10_make_27 rfl (lv_at hl 0 rfl) ?_
    refine g_getr X w_M_2 fg_X10_60 KD_0 FR_0_6 dX10_make_28 ?_
    obtain ⟨r, M_3, hc, hf⟩ := bnd_some hf
    refine g_cvi (As := []) (rest := []) X w_M_2 (k_X2_starts X.2.2.1  w_M_2.2.2 hc) lk_X10_209 cl_2 KD_48 ⟨rfl, rfl⟩ ⟨nle rfl, nle rfl⟩ ⟨nle rfl, nle rfl⟩ hl.1 rfl (nle rfl) dX10_make_31 (fun hr H locs w_M_3 => ?_)
    refine g_if_ne (tgt := 40) X hr dX10_make_34 (by decide) (fun cd_2 => ?_) (fun cd_2 => ?_)
    · replace hf := ite_f cd_2 hf
      refine lv_aload_n hx hb dX10_make_40 rfl (lv_at hl 0 rfl) ?_
      refine g_getr X w_M_3 fg_X10_60 KD_0 FR_0_6 dX10_make_41 ?_
      obtain ⟨M_4, hc, hf⟩ := obn_some hf
      refine g_cvv (As := []) (rest := []) X w_M_3 (k_X2_improve X.2.2.1  w_M_3.2.2 hc) lk_X10_213 cl_2 KD_48 ⟨rfl, rfl⟩ ⟨nle rfl, nle rfl⟩ ⟨nle rfl, nle rfl⟩ hl.1 rfl (nle rfl) dX10_make_44 (fun H locs w_M_4 => ?_)
      refine lv_aload_n hx hb dX10_make_47 rfl (lv_at hl 0 rfl) ?_
      refine lv_aload_n hx hb dX10_make_48 rfl (lv_at hl 0 rfl) ?_
      refine g_getr X w_M_4 fg_X10_60 KD_0 FR_0_6 dX10_make_49 ?_
      refine g_geti X w_M_4 fg_X10_216 KD_48 FR_48_4 dX10_make_52 ?_
      obtain ⟨M_5, eM_5, hf⟩ := lt_some hf
      refine g_puti X w_M_4 fp_X10_101 KD_0 FR_0_15 (w_M_4.2.2 _ _) dX10_make_55 (fun H locs w_M_5 => ?_)
      rw [← eM_5] at w_M_5
      refine g_iconst X dX10_make_58 ?_
      refine g_istn (v := 0) (lv' := [(1, .int (i2 0)), (0, .ref (ad 0))]) X rfl dX10_make_59 rfl hl (by decide) rfl (fun ls hl => ?_)
      obtain ⟨q, hq, h1⟩ := obn_some hf
      exact l_X10_make_60 X  (out := q) (fun y1 M1 H locs ls eq hy1 hl w => b_X10_make_j92 X  HR M1 (by subst eq; exact h1) (lv_sub hl [0] rfl) w)  FU 0 M_5 hq (inL rfl) (lv_sub hl [1, 0] rfl) w_M_5
    · replace hf := ite_t cd_2 hf
      refine g_bipush X dX10_make_37 (by decide) ?_
      exact HR (-2) M_3 _ _ _ _ (Option.some.inj hf).symm (inL rfl) w_M_3 dX10_make_39
  · replace hf := ite_t cd hf
    refine g_iconst X dX10_make_10 ?_
    exact HR (-1) M _ _ _ _ (Option.some.inj hf).symm (inL rfl) w dX10_make_11
set_option maxRecDepth 100000 in
set_option maxHeartbeats 4000000 in
theorem k_X10_make {l : Launch} {D : va_G} {aC : Nat → ClassId} {ad : Nat → Nat} {sg : SG} (hi : Inj ad)  {M : Mem} (hM : inM M) {r : Int} {M' : Mem} (hf : f_X10_make M = some (r, M')) : MetI l D aC ad sg yX10_make cX10_make 2 (some .int) rm_X10_make 0 0 [.ref (ad 0)] M r M' := by
  refine MetI.ofI (by decide +kernel) (nle rfl) hi hM (fun p e s m args below meth c Q H0 ls X hl w hret => ?_)
  exact b_X10_make_0 X  (fun r1 M1 H locs pc ls eo hP w dg => by cases eo; exact hret H locs pc ls hP w dg) M hf hl w
set_option maxRecDepth 100000 in
set_option maxHeartbeats 4000000 in
theorem b_X10_steps_0 (X : CX p s m args c cX10_steps 1 RX10 D aC ad sg A H0) {M : Mem} {o : Int} (HR : ∀ (r : Int) (H : Heap) (locs : List Loc) (pc : Nat) (ls : Array Slot), o = r → inR r → WS D aC ad A H0 M H locs → decode cX10_steps pc = .ok (.ireturn, 1) → W p l e rm_X10_steps s m args below meth c H locs 0 0 Q (F0 m pc ls [.int (i2 r)])) (hf : f_X10_steps M = some o) {H : Heap} {locs : List Loc} {ls : Array Slot} (hl : lv_has ls 1 [(0, .ref (ad 0))]) (w : WS D aC ad A H0 M H locs) : W p l e rm_X10_steps s m args below meth c H locs 0 0 Q (F0 m 0 ls []) := by
  have hx := X.1.1
  have hb := X.1.2.1
  unfold f_X10_steps at hf
  refine lv_aload_n hx hb dX10_steps_0 rfl (lv_at hl 0 rfl) ?_
  refine g_geti X w fg_X10_101 KD_0 FR_0_15 dX10_steps_1 ?_
  exact HR (M 0 15) _ _ _ _ (Option.some.inj hf).symm (w.2.2 _ _) w dX10_steps_4
set_option maxRecDepth 100000 in
set_option maxHeartbeats 4000000 in
theorem k_X10_steps {l : Launch} {D : va_G} {aC : Nat → ClassId} {ad : Nat → Nat} {sg : SG} (hi : Inj ad)  {M : Mem} (hM : inM M) {r : Int} (hf : f_X10_steps M = some r) : MetI l D aC ad sg yX10_steps cX10_steps 1 (some .int) rm_X10_steps 0 0 [.ref (ad 0)] M r M := by
  refine MetI.ofI (by decide +kernel) (nle rfl) hi hM (fun p e s m args below meth c Q H0 ls X hl w hret => ?_)
  exact b_X10_steps_0 X  (fun r1 H locs pc ls eo hP w dg => by cases eo; exact hret H locs pc ls hP w dg)  hf hl w
set_option maxRecDepth 100000 in
set_option maxHeartbeats 4000000 in
theorem b_X10_gatherList_s10 (X : CX p s m args c cX10_gatherList 3 RX10 D aC ad sg A H0) {o : (Int × Mem) ⊕ (Int × Mem)} (HC : ∀ (y1 : Int) (M1 : Mem) (H : Heap) (locs : List Loc) (ls : Array Slot), o = .inl (y1, M1) → inR y1 → lv_has ls 3 [(0, .ref (ad 0)), (1, .int (i2 y1))] → WS D aC ad A H0 M1 H locs → W p l e rm_X10_gatherList s m args below meth c H locs 0 0 Q (F0 m 10 ls [])) (HE : ∀ (y1 : Int) (M1 : Mem) (H : Heap) (locs : List Loc) (ls : Array Slot), o = .inr (y1, M1) → inR y1 → lv_has ls 3 [(0, .ref (ad 0)), (1, .int (i2 y1))] → WS D aC ad A H0 M1 H locs → W p l e rm_X10_gatherList s m args below meth c H locs 0 0 Q (F0 m 59 ls [])) (v1 : Int) (hv1 : inR v1) (M : Mem) (hf : f_X10_gatherList_s10 v1 M = some o) {H : Heap} {locs : List Loc} {ls : Array Slot} (hl : lv_has ls 3 [(0, .ref (ad 0)), (1, .int (i2 v1))]) (w : WS D aC ad A H0 M H locs) : W p l e rm_X10_gatherList s m args below meth c H locs 0 0 Q (F0 m 10 ls []) := by
  have hx := X.1.1
  have hb := X.1.2.1
  unfold f_X10_gatherList_s10 at hf
  refine lv_iload_n hx hb dX10_gatherList_10 rfl (lv_at hl 1 rfl) ?_
  refine lv_aload_n hx hb dX10_gatherList_11 rfl (lv_at hl 0 rfl) ?_
  refine g_getr X w fg_X10_10 KD_0 FR_0_0 dX10_gatherList_12 ?_
  refine g_geti X w fg_X10_194 KD_3 FR_3_0 dX10_gatherList_15 ?_
  refine g_icmp_ge (tgt := 59) X hv1 (w.2.2 _ _) dX10_gatherList_18 (by decide) (fun cd => ?_) (fun cd => ?_)
  · replace hf := ite_t cd hf
    exact HE v1 M _ _ _ (Option.some.inj hf).symm hv1 hl w
  · replace hf := ite_f cd hf
    refine lv_aload_n hx hb dX10_gatherList_21 rfl (lv_at hl 0 rfl) ?_
    refine g_getr X w fg_X10_78 KD_0 FR_0_9 dX10_gatherList_22 ?_
    refine lv_iload_n hx hb dX10_gatherList_25 rfl (lv_at hl 1 rfl) ?_
    obtain ⟨hg, hf⟩ := gd_some hf
    refine g_iald X w KD_1 hv1 hg dX10_gatherList_26 ?_
    obtain ⟨v2, ev2, hf⟩ := lt_some hf
    have hv2 : inR v2 := inR_of ev2 (w.2.2 _ _)
    refine g_istn (v := v2) (lv' := [(2, .int (i2 v2)), (0, .ref (ad 0)), (1, .int (i2 v1))]) X ev2 dX10_gatherList_27 rfl hl (by decide) rfl (fun ls hl => ?_)
    refine lv_iload_n hx hb dX10_gatherList_28 rfl (lv_at hl 0 rfl) ?_
    refine g_if_lt (tgt := 53) X hv2 dX10_gatherList_29 (by decide) (fun cd_2 => ?_) (fun cd_2 => ?_)
    · replace hf := ite_t cd_2 hf
      obtain ⟨v1_2, ev1_2, hf⟩ := lt_some hf
      have hv1_2 : inR v1_2 := inR_of ev1_2 (inR_wrap _)
      refine lv_iinc (v := i2 v1_2) (lv' := [(1, .int (i2 v1_2)), (2, .int (i2 v2)), (0, .ref (ad 0))]) hx hb dX10_gatherList_53 hl (k := 2) rfl (by rw [ev1_2]; exact i2_add _ _) (by decide) rfl (fun ls hl => ?_)
      refine lv_goto (tgt := 10) hx hb dX10_gatherList_56 (by decide) ?_
      exact HC v1_2 M _ _ _ (Option.some.inj hf).symm hv1_2 (lv_sub hl [2, 0] rfl) w
    · replace hf := ite_f cd_2 hf
      refine lv_iload_n hx hb dX10_gatherList_32 rfl (lv_at hl 0 rfl) ?_
      refine lv_aload_n hx hb dX10_gatherList_33 rfl (lv_at hl 1 rfl) ?_
      refine g_getr X w fg_X10_88 KD_0 FR_0_10 dX10_gatherList_34 ?_
      refine g_alen X w KD_2 (by decide) dX10_gatherList_37 ?_
      refine g_icmp_ge (tgt := 53) X hv2 (inL rfl) dX10_gatherList_38 (by decide) (fun cd_3 => ?_) (fun cd_3 => ?_)
      · replace hf := ite_t cd_3 hf
        obtain ⟨v1_3, ev1_3, hf⟩ := lt_some hf
        have hv1_3 : inR v1_3 := inR_of ev1_3 (inR_wrap _)
        refine lv_iinc (v := i2 v1_3) (lv' := [(1, .int (i2 v1_3)), (2, .int (i2 v2)), (0, .ref (ad 0))]) hx hb dX10_gatherList_53 hl (k := 2) rfl (by rw [ev1_3]; exact i2_add _ _) (by decide) rfl (fun ls hl => ?_)
        refine lv_goto (tgt := 10) hx hb dX10_gatherList_56 (by decide) ?_
        exact HC v1_3 M _ _ _ (Option.some.inj hf).symm hv1_3 (lv_sub hl [2, 0] rfl) w
      · replace hf := ite_f cd_3 hf
        refine lv_aload_n hx hb dX10_gatherList_41 rfl (lv_at hl 1 rfl) ?_
        refine g_getr X w fg_X10_88 KD_0 FR_0_10 dX10_gatherList_42 ?_
        refine lv_iload_n hx hb dX10_gatherList_45 rfl (lv_at hl 0 rfl) ?_
        refine lv_dup2_11 hx hb dX10_gatherList_46 rfl rfl ?_
        obtain ⟨hg_2, hf⟩ := gd_some hf
        refine g_iald X w KD_2 hv2 hg_2 dX10_gatherList_47 ?_
        refine g_iconst X dX10_gatherList_48 ?_
        refine lv_iload_n hx hb dX10_gatherList_49 rfl (lv_at hl 2 rfl) ?_
        refine g_ishl X dX10_gatherList_50 ?_
        refine g_ior X dX10_gatherList_51 ?_
        obtain ⟨hg_3, hf⟩ := gd_some hf
        obtain ⟨M_2, eM_2, hf⟩ := lt_some hf
        refine g_iast X w KD_2 hv2 hg_3 (inR_toInt _) dX10_gatherList_52 (fun H locs w_M_2 => ?_)
        rw [← eM_2] at w_M_2
        obtain ⟨v1_4, ev1_4, hf⟩ := lt_some hf
        have hv1_4 : inR v1_4 := inR_of ev1_4 (inR_wrap _)
        refine lv_iinc (v := i2 v1_4) (lv' := [(1, .int (i2 v1_4)), (2, .int (i2 v2)), (0, .ref (ad 0))]) hx hb dX10_gatherList_53 hl (k := 2) rfl (by rw [ev1_4]; exact i2_add _ _) (by decide) rfl (fun ls hl => ?_)
        refine lv_goto (tgt := 10) hx hb dX10_gatherList_56 (by decide) ?_
        exact HC v1_4 M_2 _ _ _ (Option.some.inj hf).symm hv1_4 (lv_sub hl [2, 0] rfl) w_M_2
set_option maxRecDepth 100000 in
set_option maxHeartbeats 4000000 in
theorem l_X10_gatherList_10 (X : CX p s m args c cX10_gatherList 3 RX10 D aC ad sg A H0) {out : Int × Mem} (HE : ∀ (y1 : Int) (M1 : Mem) (H : Heap) (locs : List Loc) (ls : Array Slot), out = (y1, M1) → inR y1 → lv_has ls 3 [(0, .ref (ad 0)), (1, .int (i2 y1))] → WS D aC ad A H0 M1 H locs → W p l e rm_X10_gatherList s m args below meth c H locs 0 0 Q (F0 m 59 ls [])) : ∀ (n : Nat) (v1 : Int) (M : Mem), whl (fun s => f_X10_gatherList_s10 s.1 s.2) n (v1, M) = some out → inR v1 → ∀ {H : Heap} {locs : List Loc} {ls : Array Slot}, lv_has ls 3 [(0, .ref (ad 0)), (1, .int (i2 v1))] → WS D aC ad A H0 M H locs → W p l e rm_X10_gatherList s m args below meth c H locs 0 0 Q (F0 m 10 ls []) := by
  intro n
  induction n with
  | zero => intro v1 M hf; exact (whl_zero hf).elim
  | succ n ih =>
    intro v1 M hf hv1 H locs ls hl w
    obtain ⟨o, hf, hk1, hk2⟩ := whl_step hf
    exact b_X10_gatherList_s10 X  (fun y1 M1 H locs ls eo hy1 hl w => ih y1 M1 (hk1 _ eo) hy1 hl w) (fun y1 M1 H locs ls eo hy1 hl w => HE y1 M1 H locs ls (hk2 _ eo).symm hy1 hl w) v1 hv1 M hf hl w
set_option maxRecDepth 100000 in
set_option maxHeartbeats 4000000 in
theorem b_X10_gatherList_j59 (X : CX p s m args c cX10_gatherList 3 RX10 D aC ad sg A H0) {o : Mem} (HR : ∀ (M1 : Mem) (H : Heap) (locs : List Loc) (pc : Nat) (ls : Array Slot), o = M1 → WS D aC ad A H0 M1 H locs → decode cX10_gatherList pc = .ok (.return_, 1) → W p l e rm_X10_gatherList s m args below meth c H locs 0 0 Q (F0 m pc ls [])) (M : Mem) (hf : f_X10_gatherList_j59 M = some o) {H : Heap} {locs : List Loc} {ls : Array Slot} (hl : lv_has ls 3 []) (w : WS D aC ad A H0 M H locs) : W p l e rm_X10_gatherList s m args below meth c H locs 0 0 Q (F0 m 59 ls []) := by
  have hx := X.1.1
  have hb := X.1.2.1
  unfold f_X10_gatherList_j59 at hf
  exact HR M _ _ _ _ (Option.some.inj hf).symm w dX10_gatherList_59
set_option maxRecDepth 100000 in
set_option maxHeartbeats 4000000 in
theorem b_X10_gatherList_0 (X : CX p s m args c cX10_gatherList 3 RX10 D aC ad sg A H0) {o : Mem} (HR : ∀ (M1 : Mem) (H : Heap) (locs : List Loc) (pc : Nat) (ls : Array Slot), o = M1 → WS D aC ad A H0 M1 H locs → decode cX10_gatherList pc = .ok (.return_, 1) → W p l e rm_X10_gatherList s m args below meth c H locs 0 0 Q (F0 m pc ls [])) (M : Mem) (hf : f_X10_gatherList M = some o) {H : Heap} {locs : List Loc} {ls : Array Slot} (hl : lv_has ls 3 [(0, .ref (ad 0))]) (w : WS D aC ad A H0 M H locs) : W p l e rm_X10_gatherList s m args below meth c H locs 0 0 Q (F0 m 0 ls []) := by
  have hx := X.1.1
  have hb := X.1.2.1
  unfold f_X10_gatherList at hf
  refine lv_aload_n hx hb dX10_gatherList_0 rfl (lv_at hl 0 rfl) ?_
  refine g_getr X w fg_X10_88 KD_0 FR_0_10 dX10_gatherList_1 ?_
  refine g_iconst X dX10_gatherList_4 ?_
  obtain ⟨M_2, hc, hf⟩ := obn_some hf
  refine g_csv (As := [.ref (ad 2), .int (i2 0)]) (rest := []) X w (k_J7_fill_53178 X.2.2.1 2 KA_2 0 (inL rfl) w.2.2 hc) lk_X10_82 ⟨rfl, rfl⟩ ⟨nle rfl, nle rfl⟩ ⟨nle rfl, nle rfl⟩ hl.1 rfl (nle rfl) dX10_gatherList_5 (fun H locs w_M_2 => ?_)
  refine g_iconst X dX10_gatherList_8 ?_
  refine g_istn (v := 0) (lv' := [(1, .int (i2 0)), (0, .ref (ad 0))]) X rfl dX10_gatherList_9 rfl hl (by decide) rfl (fun ls hl => ?_)
  obtain ⟨q, hq, h1⟩ := obn_some hf
  exact l_X10_gatherList_10 X  (out := q) (fun y1 M1 H locs ls eq hy1 hl w => b_X10_gatherList_j59 X  HR M1 (by subst eq; exact h1) (lv_sub hl [] rfl) w)  FU 0 M_2 hq (inL rfl) (lv_sub hl [1, 0] rfl) w_M_2
set_option maxRecDepth 100000 in
set_option maxHeartbeats 4000000 in
theorem k_X10_gatherList {l : Launch} {D : va_G} {aC : Nat → ClassId} {ad : Nat → Nat} {sg : SG} (hi : Inj ad)  {M : Mem} (hM : inM M) {M' : Mem} (hf : f_X10_gatherList M = some M') : MetV l D aC ad sg yX10_gatherList cX10_gatherList 3 rm_X10_gatherList 0 0 [.ref (ad 0)] M M' := by
  refine MetV.of (by decide +kernel) (nle rfl) hi hM (fun p e s m args below meth c Q H0 ls X hl w hret => ?_)
  exact b_X10_gatherList_0 X  (fun M1 H locs pc ls eo w dg => by cases eo; exact hret H locs pc ls w dg) M hf hl w
set_option maxRecDepth 100000 in
set_option maxHeartbeats 4000000 in
theorem b_X10_late_j118k50 (X : CX p s m args c cX10_late 6 RX10 D aC ad sg A H0) (v1 : Int) (hv1 : inR v1) {o : (Int × Int × Int × Mem) ⊕ (Int × Int × Int × Mem)} (HC : ∀ (y2 : Int) (y3 : Int) (y4 : Int) (M1 : Mem) (H : Heap) (locs : List Loc) (ls : Array Slot), o = .inl (y2, y3, y4, M1) → inR y2 → inR y3 → inR y4 → lv_has ls 6 [(0, .ref (ad 0)), (1, .int (i2 v1)), (2, .int (i2 y2)), (3, .int (i2 y3)), (4, .int (i2 y4))] → WS D aC ad A H0 M1 H locs → W p l e rm_X10_late s m args below meth c H locs 0 0 Q (F0 m 50 ls [])) (HE : ∀ (y2 : Int) (y3 : Int) (y4 : Int) (M1 : Mem) (H : Heap) (locs : List Loc) (ls : Array Slot), o = .inr (y2, y3, y4, M1) → inR y2 → inR y3 → inR y4 → lv_has ls 6 [(0, .ref (ad 0)), (1, .int (i2 v1)), (2, .int (i2 y2)), (3, .int (i2 y3)), (4, .int (i2 y4))] → WS D aC ad A H0 M1 H locs → W p l e rm_X10_late s m args below meth c H locs 0 0 Q (F0 m 139 ls [])) (v2 : Int) (hv2 : inR v2) (v3 : Int) (hv3 : inR v3) (v4 : Int) (hv4 : inR v4) (M : Mem) (hf : f_X10_late_j118k50 v1 v2 v3 v4 M = some o) {H : Heap} {locs : List Loc} {ls : Array Slot} (hl : lv_has ls 6 [(0, .ref (ad 0)), (1, .int (i2 v1)), (2, .int (i2 v2)), (3, .int (i2 v3)), (4, .int (i2 v4))]) (w : WS D aC ad A H0 M H locs) : W p l e rm_X10_late s m args below meth c H locs 0 0 Q (F0 m 118 ls []) := by
  have hx := X.1.1
  have hb := X.1.2.1
  unfold f_X10_late_j118k50 at hf
  refine lv_aload_n hx hb dX10_late_118 rfl (lv_at hl 0 rfl) ?_
  refine g_getr X w fg_X10_88 KD_0 FR_0_10 dX10_late_119 ?_
  refine lv_iload hx hb dX10_late_122 (lv_at hl 4 rfl) ?_
  refine lv_dup2_11 hx hb dX10_late_124 rfl rfl ?_
  obtain ⟨hg, hf⟩ := gd_some hf
  refine g_iald X w KD_2 hv4 hg dX10_late_125 ?_
  refine g_iconst X dX10_late_126 ?_
  refine lv_iload_n hx hb dX10_late_127 rfl (lv_at hl 1 rfl) ?_
  refine g_ishl X dX10_late_128 ?_
  refine g_iconst X dX10_late_129 ?_
  refine g_ixor X dX10_late_130 ?_
  refine g_iand X dX10_late_131 ?_
  obtain ⟨hg_2, hf⟩ := gd_some hf
  obtain ⟨M_2, eM_2, hf⟩ := lt_some hf
  refine g_iast X w KD_2 hv4 hg_2 (inR_toInt _) dX10_late_132 (fun H locs w_M_2 => ?_)
  rw [← eM_2] at w_M_2
  obtain ⟨v4_2, ev4_2, hf⟩ := lt_some hf
  have hv4_2 : inR v4_2 := inR_of ev4_2 (inR_wrap _)
  refine lv_iinc (v := i2 v4_2) (lv' := [(4, .int (i2 v4_2)), (0, .ref (ad 0)), (1, .int (i2 v1)), (2, .int (i2 v2)), (3, .int (i2 v3))]) hx hb dX10_late_133 hl (k := 4) rfl (by rw [ev4_2]; exact i2_add _ _) (by decide) rfl (fun ls hl => ?_)
  refine lv_goto (tgt := 50) hx hb dX10_late_136 (by decide) ?_
  exact HC v2 v3 v4_2 M_2 _ _ _ (Option.some.inj hf).symm hv2 hv3 hv4_2 (lv_sub hl [1, 2, 3, 4, 0] rfl) w_M_2
set_option maxRecDepth 100000 in
set_option maxHeartbeats 4000000 in
theorem b_X10_late_s50 (X : CX p s m args c cX10_late 6 RX10 D aC ad sg A H0) (v1 : Int) (hv1 : inR v1) {o : (Int × Int × Int × Mem) ⊕ (Int × Int × Int × Mem)} (HC : ∀ (y2 : Int) (y3 : Int) (y4 : Int) (M1 : Mem) (H : Heap) (locs : List Loc) (ls : Array Slot), o = .inl (y2, y3, y4, M1) → inR y2 → inR y3 → inR y4 → lv_has ls 6 [(0, .ref (ad 0)), (1, .int (i2 v1)), (2, .int (i2 y2)), (3, .int (i2 y3)), (4, .int (i2 y4))] → WS D aC ad A H0 M1 H locs → W p l e rm_X10_late s m args below meth c H locs 0 0 Q (F0 m 50 ls [])) (HE : ∀ (y2 : Int) (y3 : Int) (y4 : Int) (M1 : Mem) (H : Heap) (locs : List Loc) (ls : Array Slot), o = .inr (y2, y3, y4, M1) → inR y2 → inR y3 → inR y4 → lv_has ls 6 [(0, .ref (ad 0)), (1, .int (i2 v1)), (2, .int (i2 y2)), (3, .int (i2 y3)), (4, .int (i2 y4))] → WS D aC ad A H0 M1 H locs → W p l e rm_X10_late s m args below meth c H locs 0 0 Q (F0 m 139 ls [])) (v2 : Int) (hv2 : inR v2) (v3 : Int) (hv3 : inR v3) (v4 : Int) (hv4 : inR v4) (M : Mem) (hf : f_X10_late_s50 v1 v2 v3 v4 M = some o) {H : Heap} {locs : List Loc} {ls : Array Slot} (hl : lv_has ls 6 [(0, .ref (ad 0)), (1, .int (i2 v1)), (2, .int (i2 v2)), (3, .int (i2 v3)), (4, .int (i2 v4))]) (w : WS D aC ad A H0 M H locs) : W p l e rm_X10_late s m args below meth c H locs 0 0 Q (F0 m 50 ls []) := by
  have hx := X.1.1
  have hb := X.1.2.1
  unfold f_X10_late_s50 at hf
  refine lv_iload hx hb dX10_late_50 (lv_at hl 4 rfl) ?_
  refine lv_aload_n hx hb dX10_late_52 rfl (lv_at hl 0 rfl) ?_
  refine g_getr X w fg_X10_10 KD_0 FR_0_0 dX10_late_53 ?_
  refine g_geti X w fg_X10_151 KD_3 FR_3_13 dX10_late_56 ?_
  refine g_icmp_ge (tgt := 139) X hv4 (w.2.2 _ _) dX10_late_59 (by decide) (fun cd => ?_) (fun cd => ?_)
  · replace hf := ite_t cd hf
    exact HE v2 v3 v4 M _ _ _ (Option.some.inj hf).symm hv2 hv3 hv4 hl w
  · replace hf := ite_f cd hf
    refine lv_aload_n hx hb dX10_late_62 rfl (lv_at hl 0 rfl) ?_
    refine g_getr X w fg_X10_88 KD_0 FR_0_10 dX10_late_63 ?_
    refine lv_iload hx hb dX10_late_66 (lv_at hl 4 rfl) ?_
    refine lv_dup2_11 hx hb dX10_late_68 rfl rfl ?_
    obtain ⟨hg, hf⟩ := gd_some hf
    refine g_iald X w KD_2 hv4 hg dX10_late_69 ?_
    refine g_iconst X dX10_late_70 ?_
    refine lv_iload_n hx hb dX10_late_71 rfl (lv_at hl 1 rfl) ?_
    refine g_ishl X dX10_late_72 ?_
    refine g_ior X dX10_late_73 ?_
    obtain ⟨hg_2, hf⟩ := gd_some hf
    obtain ⟨M_2, eM_2, hf⟩ := lt_some hf
    refine g_iast X w KD_2 hv4 hg_2 (inR_toInt _) dX10_late_74 (fun H locs w_M_2 => ?_)
    rw [← eM_2] at w_M_2
    refine lv_aload_n hx hb dX10_late_75 rfl (lv_at hl 0 rfl) ?_
    refine g_getr X w_M_2 fg_X10_44 KD_0 FR_0_4 dX10_late_76 ?_
    refine lv_aload_n hx hb dX10_late_79 rfl (lv_at hl 0 rfl) ?_
    refine g_getr X w_M_2 fg_X10_88 KD_0 FR_0_10 dX10_late_80 ?_
    obtain ⟨r, hc, hf⟩ := obn_some hf
    refine g_cvi (As := [.ref (ad 2)]) (rest := []) X w_M_2 (k_X4_allows X.2.2.1 2 KA_2 w_M_2.2.2 hc) lk_X10_231 cl_4 KD_30 ⟨rfl, rfl⟩ ⟨nle rfl, nle rfl⟩ ⟨nle rfl, nle rfl⟩ hl.1 rfl (nle rfl) dX10_late_83 (fun hr H locs w_M_2 => ?_)
    refine g_if_eq (tgt := 118) X hr dX10_late_86 (by decide) (fun cd_2 => ?_) (fun cd_2 => ?_)
    · replace hf := ite_t cd_2 hf
      refine lv_aload_n hx hb dX10_late_118 rfl (lv_at hl 0 rfl) ?_
      refine g_getr X w_M_2 fg_X10_88 KD_0 FR_0_10 dX10_late_119 ?_
      refine lv_iload hx hb dX10_late_122 (lv_at hl 4 rfl) ?_
      refine lv_dup2_11 hx hb dX10_late_124 rfl rfl ?_
      obtain ⟨hg_3, hf⟩ := gd_some hf
      refine g_iald X w_M_2 KD_2 hv4 hg_3 dX10_late_125 ?_
      refine g_iconst X dX10_late_126 ?_
      refine lv_iload_n hx hb dX10_late_127 rfl (lv_at hl 1 rfl) ?_
      refine g_ishl X dX10_late_128 ?_
      refine g_iconst X dX10_late_129 ?_
      refine g_ixor X dX10_late_130 ?_
      refine g_iand X dX10_late_131 ?_
      obtain ⟨hg_4, hf⟩ := gd_some hf
      obtain ⟨M_3, eM_3, hf⟩ := lt_some hf
      refine g_iast X w_M_2 KD_2 hv4 hg_4 (inR_toInt _) dX10_late_132 (fun H locs w_M_3 => ?_)
      rw [← eM_3] at w_M_3
      obtain ⟨v4_2, ev4_2, hf⟩ := lt_some hf
      have hv4_2 : inR v4_2 := inR_of ev4_2 (inR_wrap _)
      refine lv_iinc (v := i2 v4_2) (lv' := [(4, .int (i2 v4_2)), (0, .ref (ad 0)), (1, .int (i2 v1)), (2, .int (i2 v2)), (3, .int (i2 v3))]) hx hb dX10_late_133 hl (k := 4) rfl (by rw [ev4_2]; exact i2_add _ _) (by decide) rfl (fun ls hl => ?_)
      refine lv_goto (tgt := 50) hx hb dX10_late_136 (by decide) ?_
      exact HC v2 v3 v4_2 M_3 _ _ _ (Option.some.inj hf).symm hv2 hv3 hv4_2 (lv_sub hl [1, 2, 3, 4, 0] rfl) w_M_3
    · replace hf := ite_f cd_2 hf
      refine lv_aload_n hx hb dX10_late_89 rfl (lv_at hl 0 rfl) ?_
      refine g_getr X w_M_2 fg_X10_44 KD_0 FR_0_4 dX10_late_90 ?_
      refine lv_aload_n hx hb dX10_late_93 rfl (lv_at hl 0 rfl) ?_
      refine g_getr X w_M_2 fg_X10_88 KD_0 FR_0_10 dX10_late_94 ?_
      obtain ⟨r_2, hc, hf⟩ := obn_some hf
      refine g_cvi (As := [.ref (ad 2)]) (rest := []) X w_M_2 (k_X4_harmOf X.2.2.1 2 KA_2 w_M_2.2.2 hc) lk_X10_235 cl_4 KD_30 ⟨rfl, rfl⟩ ⟨nle rfl, nle rfl⟩ ⟨nle rfl, nle rfl⟩ hl.1 rfl (nle rfl) dX10_late_97 (fun hr_2 H locs w_M_2 => ?_)
      refine g_ist (v := r_2) (lv' := [(5, .int (i2 r_2)), (0, .ref (ad 0)), (1, .int (i2 v1)), (2, .int (i2 v2)), (3, .int (i2 v3)), (4, .int (i2 v4))]) X rfl dX10_late_100 hl (by decide) rfl (fun ls hl => ?_)
      refine lv_iload_n hx hb dX10_late_102 rfl (lv_at hl 3 rfl) ?_
      refine g_if_lt (tgt := 112) X hv2 dX10_late_103 (by decide) (fun cd_3 => ?_) (fun cd_3 => ?_)
      · replace hf := ite_t cd_3 hf
        refine lv_iload hx hb dX10_late_112 (lv_at hl 5 rfl) ?_
        refine g_istn (v := v4) (lv' := [(2, .int (i2 v4)), (5, .int (i2 r_2)), (0, .ref (ad 0)), (1, .int (i2 v1)), (3, .int (i2 v3)), (4, .int (i2 v4))]) X rfl dX10_late_114 rfl hl (by decide) rfl (fun ls hl => ?_)
        refine lv_iload hx hb dX10_late_115 (lv_at hl 1 rfl) ?_
        refine g_istn (v := r_2) (lv' := [(3, .int (i2 r_2)), (2, .int (i2 v4)), (5, .int (i2 r_2)), (0, .ref (ad 0)), (1, .int (i2 v1)), (4, .int (i2 v4))]) X rfl dX10_late_117 rfl hl (by decide) rfl (fun ls hl => ?_)
        exact b_X10_late_j118k50 X v1 hv1 HC HE v4 hv4 r_2 hr_2 v4 hv4 M_2 hf (lv_sub hl [3, 4, 1, 0, 5] rfl) w_M_2
      · replace hf := ite_f cd_3 hf
        refine lv_iload hx hb dX10_late_106 (lv_at hl 0 rfl) ?_
        refine lv_iload_n hx hb dX10_late_108 rfl (lv_at hl 4 rfl) ?_
        refine g_icmp_ge (tgt := 118) X hr_2 hv3 dX10_late_109 (by decide) (fun cd_4 => ?_) (fun cd_4 => ?_)
        · replace hf := ite_t cd_4 hf
          refine lv_aload_n hx hb dX10_late_118 rfl (lv_at hl 1 rfl) ?_
          refine g_getr X w_M_2 fg_X10_88 KD_0 FR_0_10 dX10_late_119 ?_
          refine lv_iload hx hb dX10_late_122 (lv_at hl 5 rfl) ?_
          refine lv_dup2_11 hx hb dX10_late_124 rfl rfl ?_
          obtain ⟨hg_5, hf⟩ := gd_some hf
          refine g_iald X w_M_2 KD_2 hv4 hg_5 dX10_late_125 ?_
          refine g_iconst X dX10_late_126 ?_
          refine lv_iload_n hx hb dX10_late_127 rfl (lv_at hl 2 rfl) ?_
          refine g_ishl X dX10_late_128 ?_
          refine g_iconst X dX10_late_129 ?_
          refine g_ixor X dX10_late_130 ?_
          refine g_iand X dX10_late_131 ?_
          obtain ⟨hg_6, hf⟩ := gd_some hf
          obtain ⟨M_4, eM_4, hf⟩ := lt_some hf
          refine g_iast X w_M_2 KD_2 hv4 hg_6 (inR_toInt _) dX10_late_132 (fun H locs w_M_4 => ?_)
          rw [← eM_4] at w_M_4
          obtain ⟨v4_3, ev4_3, hf⟩ := lt_some hf
          have hv4_3 : inR v4_3 := inR_of ev4_3 (inR_wrap _)
          refine lv_iinc (v := i2 v4_3) (lv' := [(4, .int (i2 v4_3)), (5, .int (i2 r_2)), (0, .ref (ad 0)), (1, .int (i2 v1)), (2, .int (i2 v2)), (3, .int (i2 v3))]) hx hb dX10_late_133 hl (k := 5) rfl (by rw [ev4_3]; exact i2_add _ _) (by decide) rfl (fun ls hl => ?_)
          refine lv_goto (tgt := 50) hx hb dX10_late_136 (by decide) ?_
          exact HC v2 v3 v4_3 M_4 _ _ _ (Option.some.inj hf).symm hv2 hv3 hv4_3 (lv_sub hl [2, 3, 4, 5, 0] rfl) w_M_4
        · replace hf := ite_f cd_4 hf
          refine lv_iload hx hb dX10_late_112 (lv_at hl 5 rfl) ?_
          refine g_istn (v := v4) (lv' := [(2, .int (i2 v4)), (5, .int (i2 r_2)), (0, .ref (ad 0)), (1, .int (i2 v1)), (3, .int (i2 v3)), (4, .int (i2 v4))]) X rfl dX10_late_114 rfl hl (by decide) rfl (fun ls hl => ?_)
          refine lv_iload hx hb dX10_late_115 (lv_at hl 1 rfl) ?_
          refine g_istn (v := r_2) (lv' := [(3, .int (i2 r_2)), (2, .int (i2 v4)), (5, .int (i2 r_2)), (0, .ref (ad 0)), (1, .int (i2 v1)), (4, .int (i2 v4))]) X rfl dX10_late_117 rfl hl (by decide) rfl (fun ls hl => ?_)
          exact b_X10_late_j118k50 X v1 hv1 HC HE v4 hv4 r_2 hr_2 v4 hv4 M_2 hf (lv_sub hl [3, 4, 1, 0, 5] rfl) w_M_2
set_option maxRecDepth 100000 in
set_option maxHeartbeats 4000000 in
theorem l_X10_late_50 (X : CX p s m args c cX10_late 6 RX10 D aC ad sg A H0) (v1 : Int) (hv1 : inR v1) {out : Int × Int × Int × Mem} (HE : ∀ (y2 : Int) (y3 : Int) (y4 : Int) (M1 : Mem) (H : Heap) (locs : List Loc) (ls : Array Slot), out = (y2, y3, y4, M1) → inR y2 → inR y3 → inR y4 → lv_has ls 6 [(0, .ref (ad 0)), (1, .int (i2 v1)), (2, .int (i2 y2)), (3, .int (i2 y3)), (4, .int (i2 y4))] → WS D aC ad A H0 M1 H locs → W p l e rm_X10_late s m args below meth c H locs 0 0 Q (F0 m 139 ls [])) : ∀ (n : Nat) (v2 : Int) (v3 : Int) (v4 : Int) (M : Mem), whl (fun s => f_X10_late_s50 v1 s.1 s.2.1 s.2.2.1 s.2.2.2) n (v2, v3, v4, M) = some out → inR v2 → inR v3 → inR v4 → ∀ {H : Heap} {locs : List Loc} {ls : Array Slot}, lv_has ls 6 [(0, .ref (ad 0)), (1, .int (i2 v1)), (2, .int (i2 v2)), (3, .int (i2 v3)), (4, .int (i2 v4))] → WS D aC ad A H0 M H locs → W p l e rm_X10_late s m args below meth c H locs 0 0 Q (F0 m 50 ls []) := by
  intro n
  induction n with
  | zero => intro v2 v3 v4 M hf; exact (whl_zero hf).elim
  | succ n ih =>
    intro v2 v3 v4 M hf hv2 hv3 hv4 H locs ls hl w
    obtain ⟨o, hf, hk1, hk2⟩ := whl_step hf
    exact b_X10_late_s50 X v1 hv1 (fun y2 y3 y4 M1 H locs ls eo hy2 hy3 hy4 hl w => ih y2 y3 y4 M1 (hk1 _ eo) hy2 hy3 hy4 hl w) (fun y2 y3 y4 M1 H locs ls eo hy2 hy3 hy4 hl w => HE y2 y3 y4 M1 H locs ls (hk2 _ eo).symm hy2 hy3 hy4 hl w) v2 hv2 v3 hv3 v4 hv4 M hf hl w
set_option maxRecDepth 100000 in
set_option maxHeartbeats 4000000 in
theorem b_X10_late_j139 (X : CX p s m args c cX10_late 6 RX10 D aC ad sg A H0) {o : Int × Mem} (HR : ∀ (r : Int) (M1 : Mem) (H : Heap) (locs : List Loc) (pc : Nat) (ls : Array Slot), o = (r, M1) → inR r → WS D aC ad A H0 M1 H locs → decode cX10_late pc = .ok (.ireturn, 1) → W p l e rm_X10_late s m args below meth c H locs 0 0 Q (F0 m pc ls [.int (i2 r)])) (v1 : Int) (hv1 : inR v1) (v2 : Int) (hv2 : inR v2) (M : Mem) (hf : f_X10_late_j139 v1 v2 M = some o) {H : Heap} {locs : List Loc} {ls : Array Slot} (hl : lv_has ls 6 [(0, .ref (ad 0)), (1, .int (i2 v1)), (2, .int (i2 v2))]) (w : WS D aC ad A H0 M H locs) : W p l e rm_X10_late s m args below meth c H locs 0 0 Q (F0 m 139 ls []) := by
  have hx := X.1.1
  have hb := X.1.2.1
  unfold f_X10_late_j139 at hf
  refine lv_iload_n hx hb dX10_late_139 rfl (lv_at hl 2 rfl) ?_
  refine g_if_lt (tgt := 150) X hv2 dX10_late_140 (by decide) (fun cd => ?_) (fun cd => ?_)
  · replace hf := ite_t cd hf
    refine lv_iload_n hx hb dX10_late_150 rfl (lv_at hl 2 rfl) ?_
    exact HR v2 M _ _ _ _ (Option.some.inj hf).symm hv2 w dX10_late_151
  · replace hf := ite_f cd hf
    refine lv_aload_n hx hb dX10_late_143 rfl (lv_at hl 0 rfl) ?_
    refine g_getr X w fg_X10_78 KD_0 FR_0_9 dX10_late_144 ?_
    refine lv_iload_n hx hb dX10_late_147 rfl (lv_at hl 1 rfl) ?_
    refine lv_iload_n hx hb dX10_late_148 rfl (lv_at hl 2 rfl) ?_
    obtain ⟨hg, hf⟩ := gd_some hf
    obtain ⟨M_2, eM_2, hf⟩ := lt_some hf
    refine g_iast X w KD_1 hv1 hg hv2 dX10_late_149 (fun H locs w_M_2 => ?_)
    rw [← eM_2] at w_M_2
    refine lv_iload_n hx hb dX10_late_150 rfl (lv_at hl 2 rfl) ?_
    exact HR v2 M_2 _ _ _ _ (Option.some.inj hf).symm hv2 w_M_2 dX10_late_151
set_option maxRecDepth 100000 in
set_option maxHeartbeats 4000000 in
theorem b_X10_late_0 (X : CX p s m args c cX10_late 6 RX10 D aC ad sg A H0) {o : Int × Mem} (HR : ∀ (r : Int) (M1 : Mem) (H : Heap) (locs : List Loc) (pc : Nat) (ls : Array Slot), o = (r, M1) → inR r → WS D aC ad A H0 M1 H locs → decode cX10_late pc = .ok (.ireturn, 1) → W p l e rm_X10_late s m args below meth c H locs 0 0 Q (F0 m pc ls [.int (i2 r)])) (p1 : Int) (hp1 : inR p1) (M : Mem) (hf : f_X10_late p1 M = some o) {H : Heap} {locs : List Loc} {ls : Array Slot} (hl : lv_has ls 6 [(0, .ref (ad 0)), (1, .int (i2 p1))]) (w : WS D aC ad A H0 M H locs) : W p l e rm_X10_late s m args below meth c H locs 0 0 Q (F0 m 0 ls []) := by
  have hx := X.1.1
  have hb := X.1.2.1
  unfold f_X10_late at hf
  refine lv_aload_n hx hb dX10_late_0 rfl (lv_at hl 0 rfl) ?_
  refine g_getr X w fg_X10_10 KD_0 FR_0_0 dX10_late_1 ?_
  refine lv_iload_n hx hb dX10_late_4 rfl (lv_at hl 1 rfl) ?_
  obtain ⟨r, hc, hf⟩ := obn_some hf
  refine g_cvi (As := [.int (i2 p1)]) (rest := []) X w (k_X1_has X.2.2.1 p1 hp1 w.2.2 hc) lk_X10_120 cl_1 KD_3 ⟨rfl, rfl⟩ ⟨nle rfl, nle rfl⟩ ⟨nle rfl, nle rfl⟩ hl.1 rfl (nle rfl) dX10_late_5 (fun hr H locs w => ?_)
  refine g_if_eq (tgt := 21) X hr dX10_late_8 (by decide) (fun cd => ?_) (fun cd => ?_)
  · replace hf := ite_t cd hf
    refine g_iconst X dX10_late_21 ?_
    exact HR (-1) M _ _ _ _ (Option.some.inj hf).symm (inL rfl) w dX10_late_22
  · replace hf := ite_f cd hf
    refine lv_aload_n hx hb dX10_late_11 rfl (lv_at hl 0 rfl) ?_
    refine g_getr X w fg_X10_78 KD_0 FR_0_9 dX10_late_12 ?_
    refine lv_iload_n hx hb dX10_late_15 rfl (lv_at hl 1 rfl) ?_
    obtain ⟨hg, hf⟩ := gd_some hf
    refine g_iald X w KD_1 hp1 hg dX10_late_16 ?_
    refine g_iconst X dX10_late_17 ?_
    refine g_icmp_eq (tgt := 23) X (w.2.2 _ _) (inL rfl) dX10_late_18 (by decide) (fun cd_2 => ?_) (fun cd_2 => ?_)
    · replace hf := ite_t cd_2 hf
      refine lv_aload_n hx hb dX10_late_23 rfl (lv_at hl 0 rfl) ?_
      refine g_getr X w fg_X10_44 KD_0 FR_0_4 dX10_late_24 ?_
      refine lv_aload_n hx hb dX10_late_27 rfl (lv_at hl 0 rfl) ?_
      obtain ⟨hru, hf⟩ := gd_some hf
      refine g_getd X w fg_X10_94 KD_0 FR_0_11 hru dX10_late_28 ?_
      refine lv_aload_n hx hb dX10_late_31 rfl (lv_at hl 0 rfl) ?_
      refine g_geti X w fg_X10_113 KD_0 FR_0_13 dX10_late_32 ?_
      obtain ⟨M_2, hc, hf⟩ := obn_some hf
      refine g_cvv (As := [.ref (ad ((M 0 11).toNat)), .int (i2 (M 0 13))]) (rest := []) X w (k_X4_prepare X.2.2.1 (M 0 11) hru (M 0 13) (w.2.2 _ _) w.2.2 hc) lk_X10_186 cl_4 KD_30 ⟨rfl, rfl⟩ ⟨nle rfl, nle rfl⟩ ⟨nle rfl, nle rfl⟩ hl.1 rfl (nle rfl) dX10_late_35 (fun H locs w_M_2 => ?_)
      refine lv_aload_n hx hb dX10_late_38 rfl (lv_at hl 0 rfl) ?_
      obtain ⟨M_3, hc, hf⟩ := obn_some hf
      refine g_cvv (As := []) (rest := []) X w_M_2 (k_X10_gatherList X.2.2.1  w_M_2.2.2 hc) lk_X10_228 cl_10 KD_0 ⟨rfl, rfl⟩ ⟨nle rfl, nle rfl⟩ ⟨nle rfl, nle rfl⟩ hl.1 rfl (nle rfl) dX10_late_39 (fun H locs w_M_3 => ?_)
      refine g_bipush X dX10_late_42 (by decide) ?_
      refine g_istn (v := (-2)) (lv' := [(2, .int (i2 (-2))), (0, .ref (ad 0)), (1, .int (i2 p1))]) X rfl dX10_late_44 rfl hl (by decide) rfl (fun ls hl => ?_)
      refine g_iconst X dX10_late_45 ?_
      refine g_istn (v := 0) (lv' := [(3, .int (i2 0)), (2, .int (i2 (-2))), (0, .ref (ad 0)), (1, .int (i2 p1))]) X rfl dX10_late_46 rfl hl (by decide) rfl (fun ls hl => ?_)
      refine g_iconst X dX10_late_47 ?_
      refine g_ist (v := 0) (lv' := [(4, .int (i2 0)), (3, .int (i2 0)), (2, .int (i2 (-2))), (0, .ref (ad 0)), (1, .int (i2 p1))]) X rfl dX10_late_48 hl (by decide) rfl (fun ls hl => ?_)
      obtain ⟨q, hq, h1⟩ := obn_some hf
      exact l_X10_late_50 X p1 hp1 (out := q) (fun y2 y3 y4 M1 H locs ls eq hy2 hy3 hy4 hl w => b_X10_late_j139 X  HR p1 hp1 y2 hy2 M1 (by subst eq; exact h1) (lv_sub hl [0, 1, 2] rfl) w)  FU (-2) 0 0 M_3 hq (inL rfl) (inL rfl) (inL rfl) (lv_sub hl [3, 4, 2, 1, 0] rfl) w_M_3
    · replace hf := ite_f cd_2 hf
      refine g_iconst X dX10_late_21 ?_
      exact HR (-1) M _ _ _ _ (Option.some.inj hf).symm (inL rfl) w dX10_late_22
set_option maxRecDepth 100000 in
set_option maxHeartbeats 4000000 in
theorem k_X10_late {l : Launch} {D : va_G} {aC : Nat → ClassId} {ad : Nat → Nat} {sg : SG} (hi : Inj ad) (p1 : Int) (hp1 : inR p1) {M : Mem} (hM : inM M) {r : Int} {M' : Mem} (hf : f_X10_late p1 M = some (r, M')) : MetI l D aC ad sg yX10_late cX10_late 6 (some .int) rm_X10_late 0 0 [.ref (ad 0), .int (i2 p1)] M r M' := by
  refine MetI.ofI (by decide +kernel) (nle rfl) hi hM (fun p e s m args below meth c Q H0 ls X hl w hret => ?_)
  exact b_X10_late_0 X  (fun r1 M1 H locs pc ls eo hP w dg => by cases eo; exact hret H locs pc ls hP w dg) p1 hp1 M hf hl w
set_option maxRecDepth 100000 in
set_option maxHeartbeats 4000000 in
theorem b_X10_countListed_s4 (X : CX p s m args c cX10_countListed 3 RX10 D aC ad sg A H0) {M : Mem} {o : (Int × Int) ⊕ (Int × Int)} (HC : ∀ (y1 : Int) (y2 : Int) (H : Heap) (locs : List Loc) (ls : Array Slot), o = .inl (y1, y2) → inR y1 → inR y2 → lv_has ls 3 [(0, .ref (ad 0)), (1, .int (i2 y1)), (2, .int (i2 y2))] → WS D aC ad A H0 M H locs → W p l e rm_X10_countListed s m args below meth c H locs 0 0 Q (F0 m 4 ls [])) (HE : ∀ (y1 : Int) (y2 : Int) (H : Heap) (locs : List Loc) (ls : Array Slot), o = .inr (y1, y2) → inR y1 → inR y2 → lv_has ls 3 [(0, .ref (ad 0)), (1, .int (i2 y1)), (2, .int (i2 y2))] → WS D aC ad A H0 M H locs → W p l e rm_X10_countListed s m args below meth c H locs 0 0 Q (F0 m 34 ls [])) (v1 : Int) (hv1 : inR v1) (v2 : Int) (hv2 : inR v2) (hf : f_X10_countListed_s4 M v1 v2 = some o) {H : Heap} {locs : List Loc} {ls : Array Slot} (hl : lv_has ls 3 [(0, .ref (ad 0)), (1, .int (i2 v1)), (2, .int (i2 v2))]) (w : WS D aC ad A H0 M H locs) : W p l e rm_X10_countListed s m args below meth c H locs 0 0 Q (F0 m 4 ls []) := by
  have hx := X.1.1
  have hb := X.1.2.1
  unfold f_X10_countListed_s4 at hf
  refine lv_iload_n hx hb dX10_countListed_4 rfl (lv_at hl 2 rfl) ?_
  refine lv_aload_n hx hb dX10_countListed_5 rfl (lv_at hl 0 rfl) ?_
  refine g_getr X w fg_X10_10 KD_0 FR_0_0 dX10_countListed_6 ?_
  refine g_geti X w fg_X10_194 KD_3 FR_3_0 dX10_countListed_9 ?_
  refine g_icmp_ge (tgt := 34) X hv2 (w.2.2 _ _) dX10_countListed_12 (by decide) (fun cd => ?_) (fun cd => ?_)
  · replace hf := ite_t cd hf
    exact HE v1 v2 _ _ _ (Option.some.inj hf).symm hv1 hv2 hl w
  · replace hf := ite_f cd hf
    refine lv_aload_n hx hb dX10_countListed_15 rfl (lv_at hl 0 rfl) ?_
    refine g_getr X w fg_X10_78 KD_0 FR_0_9 dX10_countListed_16 ?_
    refine lv_iload_n hx hb dX10_countListed_19 rfl (lv_at hl 2 rfl) ?_
    obtain ⟨hg, hf⟩ := gd_some hf
    refine g_iald X w KD_1 hv2 hg dX10_countListed_20 ?_
    refine g_iconst X dX10_countListed_21 ?_
    refine g_icmp_eq (tgt := 28) X (w.2.2 _ _) (inL rfl) dX10_countListed_22 (by decide) (fun cd_2 => ?_) (fun cd_2 => ?_)
    · replace hf := ite_t cd_2 hf
      obtain ⟨v2_2, ev2_2, hf⟩ := lt_some hf
      have hv2_2 : inR v2_2 := inR_of ev2_2 (inR_wrap _)
      refine lv_iinc (v := i2 v2_2) (lv' := [(2, .int (i2 v2_2)), (0, .ref (ad 0)), (1, .int (i2 v1))]) hx hb dX10_countListed_28 hl (k := 2) rfl (by rw [ev2_2]; exact i2_add _ _) (by decide) rfl (fun ls hl => ?_)
      refine lv_goto (tgt := 4) hx hb dX10_countListed_31 (by decide) ?_
      exact HC v1 v2_2 _ _ _ (Option.some.inj hf).symm hv1 hv2_2 (lv_sub hl [1, 2, 0] rfl) w
    · replace hf := ite_f cd_2 hf
      obtain ⟨v1_2, ev1_2, hf⟩ := lt_some hf
      have hv1_2 : inR v1_2 := inR_of ev1_2 (inR_wrap _)
      refine lv_iinc (v := i2 v1_2) (lv' := [(1, .int (i2 v1_2)), (0, .ref (ad 0)), (2, .int (i2 v2))]) hx hb dX10_countListed_25 hl (k := 1) rfl (by rw [ev1_2]; exact i2_add _ _) (by decide) rfl (fun ls hl => ?_)
      obtain ⟨v2_3, ev2_3, hf⟩ := lt_some hf
      have hv2_3 : inR v2_3 := inR_of ev2_3 (inR_wrap _)
      refine lv_iinc (v := i2 v2_3) (lv' := [(2, .int (i2 v2_3)), (1, .int (i2 v1_2)), (0, .ref (ad 0))]) hx hb dX10_countListed_28 hl (k := 2) rfl (by rw [ev2_3]; exact i2_add _ _) (by decide) rfl (fun ls hl => ?_)
      refine lv_goto (tgt := 4) hx hb dX10_countListed_31 (by decide) ?_
      exact HC v1_2 v2_3 _ _ _ (Option.some.inj hf).symm hv1_2 hv2_3 (lv_sub hl [2, 1, 0] rfl) w
set_option maxRecDepth 100000 in
set_option maxHeartbeats 4000000 in
theorem l_X10_countListed_4 (X : CX p s m args c cX10_countListed 3 RX10 D aC ad sg A H0) {M : Mem} {out : Int × Int} (HE : ∀ (y1 : Int) (y2 : Int) (H : Heap) (locs : List Loc) (ls : Array Slot), out = (y1, y2) → inR y1 → inR y2 → lv_has ls 3 [(0, .ref (ad 0)), (1, .int (i2 y1)), (2, .int (i2 y2))] → WS D aC ad A H0 M H locs → W p l e rm_X10_countListed s m args below meth c H locs 0 0 Q (F0 m 34 ls [])) : ∀ (n : Nat) (v1 : Int) (v2 : Int), whl (fun s => f_X10_countListed_s4 M s.1 s.2) n (v1, v2) = some out → inR v1 → inR v2 → ∀ {H : Heap} {locs : List Loc} {ls : Array Slot}, lv_has ls 3 [(0, .ref (ad 0)), (1, .int (i2 v1)), (2, .int (i2 v2))] → WS D aC ad A H0 M H locs → W p l e rm_X10_countListed s m args below meth c H locs 0 0 Q (F0 m 4 ls []) := by
  intro n
  induction n with
  | zero => intro v1 v2 hf; exact (whl_zero hf).elim
  | succ n ih =>
    intro v1 v2 hf hv1 hv2 H locs ls hl w
    obtain ⟨o, hf, hk1, hk2⟩ := whl_step hf
    exact b_X10_countListed_s4 X  (fun y1 y2 H locs ls eo hy1 hy2 hl w => ih y1 y2 (hk1 _ eo) hy1 hy2 hl w) (fun y1 y2 H locs ls eo hy1 hy2 hl w => HE y1 y2 H locs ls (hk2 _ eo).symm hy1 hy2 hl w) v1 hv1 v2 hv2 hf hl w
set_option maxRecDepth 100000 in
set_option maxHeartbeats 4000000 in
theorem b_X10_countListed_j34 (X : CX p s m args c cX10_countListed 3 RX10 D aC ad sg A H0) {M : Mem} {o : Int} (HR : ∀ (r : Int) (H : Heap) (locs : List Loc) (pc : Nat) (ls : Array Slot), o = r → inR r → WS D aC ad A H0 M H locs → decode cX10_countListed pc = .ok (.ireturn, 1) → W p l e rm_X10_countListed s m args below meth c H locs 0 0 Q (F0 m pc ls [.int (i2 r)])) (v1 : Int) (hv1 : inR v1) (hf : f_X10_countListed_j34 v1 M = some o) {H : Heap} {locs : List Loc} {ls : Array Slot} (hl : lv_has ls 3 [(1, .int (i2 v1))]) (w : WS D aC ad A H0 M H locs) : W p l e rm_X10_countListed s m args below meth c H locs 0 0 Q (F0 m 34 ls []) := by
  have hx := X.1.1
  have hb := X.1.2.1
  unfold f_X10_countListed_j34 at hf
  refine lv_iload_n hx hb dX10_countListed_34 rfl (lv_at hl 0 rfl) ?_
  exact HR v1 _ _ _ _ (Option.some.inj hf).symm hv1 w dX10_countListed_35
set_option maxRecDepth 100000 in
set_option maxHeartbeats 4000000 in
theorem b_X10_countListed_0 (X : CX p s m args c cX10_countListed 3 RX10 D aC ad sg A H0) {M : Mem} {o : Int} (HR : ∀ (r : Int) (H : Heap) (locs : List Loc) (pc : Nat) (ls : Array Slot), o = r → inR r → WS D aC ad A H0 M H locs → decode cX10_countListed pc = .ok (.ireturn, 1) → W p l e rm_X10_countListed s m args below meth c H locs 0 0 Q (F0 m pc ls [.int (i2 r)])) (hf : f_X10_countListed M = some o) {H : Heap} {locs : List Loc} {ls : Array Slot} (hl : lv_has ls 3 [(0, .ref (ad 0))]) (w : WS D aC ad A H0 M H locs) : W p l e rm_X10_countListed s m args below meth c H locs 0 0 Q (F0 m 0 ls []) := by
  have hx := X.1.1
  have hb := X.1.2.1
  unfold f_X10_countListed at hf
  refine g_iconst X dX10_countListed_0 ?_
  refine g_istn (v := 0) (lv' := [(1, .int (i2 0)), (0, .ref (ad 0))]) X rfl dX10_countListed_1 rfl hl (by decide) rfl (fun ls hl => ?_)
  refine g_iconst X dX10_countListed_2 ?_
  refine g_istn (v := 0) (lv' := [(2, .int (i2 0)), (1, .int (i2 0)), (0, .ref (ad 0))]) X rfl dX10_countListed_3 rfl hl (by decide) rfl (fun ls hl => ?_)
  obtain ⟨q, hq, h1⟩ := obn_some hf
  exact l_X10_countListed_4 X  (out := q) (fun y1 y2 H locs ls eq hy1 hy2 hl w => b_X10_countListed_j34 X  HR y1 hy1 (by subst eq; exact h1) (lv_sub hl [1] rfl) w)  FU 0 0 hq (inL rfl) (inL rfl) (lv_sub hl [2, 1, 0] rfl) w
set_option maxRecDepth 100000 in
set_option maxHeartbeats 4000000 in
theorem k_X10_countListed {l : Launch} {D : va_G} {aC : Nat → ClassId} {ad : Nat → Nat} {sg : SG} (hi : Inj ad)  {M : Mem} (hM : inM M) {r : Int} (hf : f_X10_countListed M = some r) : MetI l D aC ad sg yX10_countListed cX10_countListed 3 (some .int) rm_X10_countListed 0 0 [.ref (ad 0)] M r M := by
  refine MetI.ofI (by decide +kernel) (nle rfl) hi hM (fun p e s m args below meth c Q H0 ls X hl w hret => ?_)
  exact b_X10_countListed_0 X  (fun r1 H locs pc ls eo hP w dg => by cases eo; exact hret H locs pc ls hP w dg)  hf hl w
set_option maxRecDepth 100000 in
set_option maxHeartbeats 4000000 in
theorem b_X10_change_s49 (X : CX p s m args c cX10_change 3 RX10 D aC ad sg A H0) {o : (Int × Mem) ⊕ (Int × Mem)} (HC : ∀ (y2 : Int) (M1 : Mem) (H : Heap) (locs : List Loc) (ls : Array Slot), o = .inl (y2, M1) → inR y2 → lv_has ls 3 [(0, .ref (ad 0)), (2, .int (i2 y2))] → WS D aC ad A H0 M1 H locs → W p l e rm_X10_change s m args below meth c H locs 0 0 Q (F0 m 49 ls [])) (HE : ∀ (y2 : Int) (M1 : Mem) (H : Heap) (locs : List Loc) (ls : Array Slot), o = .inr (y2, M1) → inR y2 → lv_has ls 3 [(0, .ref (ad 0)), (2, .int (i2 y2))] → WS D aC ad A H0 M1 H locs → W p l e rm_X10_change s m args below meth c H locs 0 0 Q (F0 m 90 ls [])) (v2 : Int) (hv2 : inR v2) (M : Mem) (hf : f_X10_change_s49 v2 M = some o) {H : Heap} {locs : List Loc} {ls : Array Slot} (hl : lv_has ls 3 [(0, .ref (ad 0)), (2, .int (i2 v2))]) (w : WS D aC ad A H0 M H locs) : W p l e rm_X10_change s m args below meth c H locs 0 0 Q (F0 m 49 ls []) := by
  have hx := X.1.1
  have hb := X.1.2.1
  unfold f_X10_change_s49 at hf
  refine lv_iload_n hx hb dX10_change_49 rfl (lv_at hl 1 rfl) ?_
  refine lv_aload_n hx hb dX10_change_50 rfl (lv_at hl 0 rfl) ?_
  refine g_getr X w fg_X10_10 KD_0 FR_0_0 dX10_change_51 ?_
  refine g_geti X w fg_X10_194 KD_3 FR_3_0 dX10_change_54 ?_
  refine g_icmp_ge (tgt := 90) X hv2 (w.2.2 _ _) dX10_change_57 (by decide) (fun cd => ?_) (fun cd => ?_)
  · replace hf := ite_t cd hf
    exact HE v2 M _ _ _ (Option.some.inj hf).symm hv2 hl w
  · replace hf := ite_f cd hf
    refine lv_aload_n hx hb dX10_change_60 rfl (lv_at hl 0 rfl) ?_
    refine g_getr X w fg_X10_78 KD_0 FR_0_9 dX10_change_61 ?_
    refine lv_iload_n hx hb dX10_change_64 rfl (lv_at hl 1 rfl) ?_
    obtain ⟨hg, hf⟩ := gd_some hf
    refine g_iald X w KD_1 hv2 hg dX10_change_65 ?_
    refine g_iconst X dX10_change_66 ?_
    refine g_icmp_eq (tgt := 84) X (w.2.2 _ _) (inL rfl) dX10_change_67 (by decide) (fun cd_2 => ?_) (fun cd_2 => ?_)
    · replace hf := ite_t cd_2 hf
      obtain ⟨v2_2, ev2_2, hf⟩ := lt_some hf
      have hv2_2 : inR v2_2 := inR_of ev2_2 (inR_wrap _)
      refine lv_iinc (v := i2 v2_2) (lv' := [(2, .int (i2 v2_2)), (0, .ref (ad 0))]) hx hb dX10_change_84 hl (k := 1) rfl (by rw [ev2_2]; exact i2_add _ _) (by decide) rfl (fun ls hl => ?_)
      refine lv_goto (tgt := 49) hx hb dX10_change_87 (by decide) ?_
      exact HC v2_2 M _ _ _ (Option.some.inj hf).symm hv2_2 (lv_sub hl [1, 0] rfl) w
    · replace hf := ite_f cd_2 hf
      refine lv_aload_n hx hb dX10_change_70 rfl (lv_at hl 0 rfl) ?_
      refine g_getr X w fg_X10_53 KD_0 FR_0_5 dX10_change_71 ?_
      refine lv_iload_n hx hb dX10_change_74 rfl (lv_at hl 1 rfl) ?_
      refine lv_aload_n hx hb dX10_change_75 rfl (lv_at hl 0 rfl) ?_
      refine g_getr X w fg_X10_78 KD_0 FR_0_9 dX10_change_76 ?_
      refine lv_iload_n hx hb dX10_change_79 rfl (lv_at hl 1 rfl) ?_
      obtain ⟨hg_2, hf⟩ := gd_some hf
      refine g_iald X w KD_1 hv2 hg_2 dX10_change_80 ?_
      obtain ⟨M_2, hc, hf⟩ := obn_some hf
      refine g_cvv (As := [.int (i2 v2), .int (i2 (M 1 v2.toNat))]) (rest := []) X w (k_X8_admit X.2.2.1 v2 hv2 (M 1 v2.toNat) (w.2.2 _ _) w.2.2 hc) lk_X10_246 cl_8 KD_35 ⟨rfl, rfl⟩ ⟨nle rfl, nle rfl⟩ ⟨nle rfl, nle rfl⟩ hl.1 rfl (nle rfl) dX10_change_81 (fun H locs w_M_2 => ?_)
      obtain ⟨v2_3, ev2_3, hf⟩ := lt_some hf
      have hv2_3 : inR v2_3 := inR_of ev2_3 (inR_wrap _)
      refine lv_iinc (v := i2 v2_3) (lv' := [(2, .int (i2 v2_3)), (0, .ref (ad 0))]) hx hb dX10_change_84 hl (k := 1) rfl (by rw [ev2_3]; exact i2_add _ _) (by decide) rfl (fun ls hl => ?_)
      refine lv_goto (tgt := 49) hx hb dX10_change_87 (by decide) ?_
      exact HC v2_3 M_2 _ _ _ (Option.some.inj hf).symm hv2_3 (lv_sub hl [1, 0] rfl) w_M_2
set_option maxRecDepth 100000 in
set_option maxHeartbeats 4000000 in
theorem l_X10_change_49 (X : CX p s m args c cX10_change 3 RX10 D aC ad sg A H0) {out : Int × Mem} (HE : ∀ (y2 : Int) (M1 : Mem) (H : Heap) (locs : List Loc) (ls : Array Slot), out = (y2, M1) → inR y2 → lv_has ls 3 [(0, .ref (ad 0)), (2, .int (i2 y2))] → WS D aC ad A H0 M1 H locs → W p l e rm_X10_change s m args below meth c H locs 0 0 Q (F0 m 90 ls [])) : ∀ (n : Nat) (v2 : Int) (M : Mem), whl (fun s => f_X10_change_s49 s.1 s.2) n (v2, M) = some out → inR v2 → ∀ {H : Heap} {locs : List Loc} {ls : Array Slot}, lv_has ls 3 [(0, .ref (ad 0)), (2, .int (i2 v2))] → WS D aC ad A H0 M H locs → W p l e rm_X10_change s m args below meth c H locs 0 0 Q (F0 m 49 ls []) := by
  intro n
  induction n with
  | zero => intro v2 M hf; exact (whl_zero hf).elim
  | succ n ih =>
    intro v2 M hf hv2 H locs ls hl w
    obtain ⟨o, hf, hk1, hk2⟩ := whl_step hf
    exact b_X10_change_s49 X  (fun y2 M1 H locs ls eo hy2 hl w => ih y2 M1 (hk1 _ eo) hy2 hl w) (fun y2 M1 H locs ls eo hy2 hl w => HE y2 M1 H locs ls (hk2 _ eo).symm hy2 hl w) v2 hv2 M hf hl w
set_option maxRecDepth 100000 in
set_option maxHeartbeats 4000000 in
theorem b_X10_change_j90 (X : CX p s m args c cX10_change 3 RX10 D aC ad sg A H0) {o : Int × Mem} (HR : ∀ (r : Int) (M1 : Mem) (H : Heap) (locs : List Loc) (pc : Nat) (ls : Array Slot), o = (r, M1) → inR r → WS D aC ad A H0 M1 H locs → decode cX10_change pc = .ok (.ireturn, 1) → W p l e rm_X10_change s m args below meth c H locs 0 0 Q (F0 m pc ls [.int (i2 r)])) (M : Mem) (hf : f_X10_change_j90 M = some o) {H : Heap} {locs : List Loc} {ls : Array Slot} (hl : lv_has ls 3 [(0, .ref (ad 0))]) (w : WS D aC ad A H0 M H locs) : W p l e rm_X10_change s m args below meth c H locs 0 0 Q (F0 m 90 ls []) := by
  have hx := X.1.1
  have hb := X.1.2.1
  unfold f_X10_change_j90 at hf
  refine lv_aload_n hx hb dX10_change_90 rfl (lv_at hl 0 rfl) ?_
  refine g_getr X w fg_X10_53 KD_0 FR_0_5 dX10_change_91 ?_
  obtain ⟨M_2, hc, hf⟩ := obn_some hf
  refine g_cvv (As := []) (rest := []) X w (k_X8_run X.2.2.1  w.2.2 hc) lk_X10_249 cl_8 KD_35 ⟨rfl, rfl⟩ ⟨nle rfl, nle rfl⟩ ⟨nle rfl, nle rfl⟩ hl.1 rfl (nle rfl) dX10_change_94 (fun H locs w_M_2 => ?_)
  refine lv_aload_n hx hb dX10_change_97 rfl (lv_at hl 0 rfl) ?_
  refine g_getr X w_M_2 fg_X10_53 KD_0 FR_0_5 dX10_change_98 ?_
  refine g_geti X w_M_2 fg_X10_252 KD_35 FR_35_17 dX10_change_101 ?_
  refine g_if_ne (tgt := 110) X (w_M_2.2.2 _ _) dX10_change_104 (by decide) (fun cd => ?_) (fun cd => ?_)
  · replace hf := ite_f cd hf
    refine lv_aload_n hx hb dX10_change_110 rfl (lv_at hl 0 rfl) ?_
    obtain ⟨M_3, hc, hf⟩ := obn_some hf
    refine g_cvv (As := []) (rest := []) X w_M_2 (k_X10_takeSearched X.2.2.1  w_M_2.2.2 hc) lk_X10_206 cl_10 KD_0 ⟨rfl, rfl⟩ ⟨nle rfl, nle rfl⟩ ⟨nle rfl, nle rfl⟩ hl.1 rfl (nle rfl) dX10_change_111 (fun H locs w_M_3 => ?_)
    refine lv_aload_n hx hb dX10_change_114 rfl (lv_at hl 0 rfl) ?_
    refine g_getr X w_M_3 fg_X10_53 KD_0 FR_0_5 dX10_change_115 ?_
    refine g_geti X w_M_3 fg_X10_255 KD_35 FR_35_18 dX10_change_118 ?_
    exact HR (M_3 35 18) M_3 _ _ _ _ (Option.some.inj hf).symm (w_M_3.2.2 _ _) w_M_3 dX10_change_121
  · replace hf := ite_t cd hf
    refine g_bipush X dX10_change_107 (by decide) ?_
    exact HR (-2) M_2 _ _ _ _ (Option.some.inj hf).symm (inL rfl) w_M_2 dX10_change_109
set_option maxRecDepth 100000 in
set_option maxHeartbeats 4000000 in
theorem b_X10_change_0 (X : CX p s m args c cX10_change 3 RX10 D aC ad sg A H0) {o : Int × Mem} (HR : ∀ (r : Int) (M1 : Mem) (H : Heap) (locs : List Loc) (pc : Nat) (ls : Array Slot), o = (r, M1) → inR r → WS D aC ad A H0 M1 H locs → decode cX10_change pc = .ok (.ireturn, 1) → W p l e rm_X10_change s m args below meth c H locs 0 0 Q (F0 m pc ls [.int (i2 r)])) (M : Mem) (hf : f_X10_change M = some o) {H : Heap} {locs : List Loc} {ls : Array Slot} (hl : lv_has ls 3 [(0, .ref (ad 0))]) (w : WS D aC ad A H0 M H locs) : W p l e rm_X10_change s m args below meth c H locs 0 0 Q (F0 m 0 ls []) := by
  have hx := X.1.1
  have hb := X.1.2.1
  unfold f_X10_change at hf
  refine lv_aload_n hx hb dX10_change_0 rfl (lv_at hl 0 rfl) ?_
  obtain ⟨r, hc, hf⟩ := obn_some hf
  refine g_cvi (As := []) (rest := []) X w (k_X10_countListed X.2.2.1  w.2.2 hc) lk_X10_239 cl_10 KD_0 ⟨rfl, rfl⟩ ⟨nle rfl, nle rfl⟩ ⟨nle rfl, nle rfl⟩ hl.1 rfl (nle rfl) dX10_change_1 (fun hr H locs w => ?_)
  refine g_istn (v := r) (lv' := [(1, .int (i2 r)), (0, .ref (ad 0))]) X rfl dX10_change_4 rfl hl (by decide) rfl (fun ls hl => ?_)
  refine lv_iload_n hx hb dX10_change_5 rfl (lv_at hl 0 rfl) ?_
  refine g_if_ne (tgt := 11) X hr dX10_change_6 (by decide) (fun cd => ?_) (fun cd => ?_)
  · replace hf := ite_f cd hf
    refine lv_iload_n hx hb dX10_change_11 rfl (lv_at hl 0 rfl) ?_
    refine g_bipush X dX10_change_12 (by decide) ?_
    refine g_icmp_le (tgt := 20) X hr (inL rfl) dX10_change_14 (by decide) (fun cd_2 => ?_) (fun cd_2 => ?_)
    · replace hf := ite_t cd_2 hf
      refine lv_aload_n hx hb dX10_change_20 rfl (lv_at hl 1 rfl) ?_
      refine g_iconst X dX10_change_21 ?_
      obtain ⟨M_2, eM_2, hf⟩ := lt_some hf
      refine g_putz X w fp_X10_109 KD_0 FR_0_16 (Or.inl rfl) dX10_change_22 (fun H locs w_M_2 => ?_)
      rw [← eM_2] at w_M_2
      refine lv_aload_n hx hb dX10_change_25 rfl (lv_at hl 1 rfl) ?_
      refine g_getr X w_M_2 fg_X10_44 KD_0 FR_0_4 dX10_change_26 ?_
      refine lv_aload_n hx hb dX10_change_29 rfl (lv_at hl 1 rfl) ?_
      obtain ⟨hru, hf⟩ := gd_some hf
      refine g_getd X w_M_2 fg_X10_94 KD_0 FR_0_11 hru dX10_change_30 ?_
      refine lv_aload_n hx hb dX10_change_33 rfl (lv_at hl 1 rfl) ?_
      refine g_geti X w_M_2 fg_X10_113 KD_0 FR_0_13 dX10_change_34 ?_
      obtain ⟨M_3, hc, hf⟩ := obn_some hf
      refine g_cvv (As := [.ref (ad ((M_2 0 11).toNat)), .int (i2 (M_2 0 13))]) (rest := []) X w_M_2 (k_X4_prepare X.2.2.1 (M_2 0 11) hru (M_2 0 13) (w_M_2.2.2 _ _) w_M_2.2.2 hc) lk_X10_186 cl_4 KD_30 ⟨rfl, rfl⟩ ⟨nle rfl, nle rfl⟩ ⟨nle rfl, nle rfl⟩ hl.1 rfl (nle rfl) dX10_change_37 (fun H locs w_M_3 => ?_)
      refine lv_aload_n hx hb dX10_change_40 rfl (lv_at hl 1 rfl) ?_
      refine g_getr X w_M_3 fg_X10_53 KD_0 FR_0_5 dX10_change_41 ?_
      obtain ⟨M_4, hc, hf⟩ := obn_some hf
      refine g_cvv (As := []) (rest := []) X w_M_3 (k_X8_begin X.2.2.1  w_M_3.2.2 hc) lk_X10_243 cl_8 KD_35 ⟨rfl, rfl⟩ ⟨nle rfl, nle rfl⟩ ⟨nle rfl, nle rfl⟩ hl.1 rfl (nle rfl) dX10_change_44 (fun H locs w_M_4 => ?_)
      refine g_iconst X dX10_change_47 ?_
      refine g_istn (v := 0) (lv' := [(2, .int (i2 0)), (1, .int (i2 r)), (0, .ref (ad 0))]) X rfl dX10_change_48 rfl hl (by decide) rfl (fun ls hl => ?_)
      obtain ⟨q, hq, h1⟩ := obn_some hf
      exact l_X10_change_49 X  (out := q) (fun y2 M1 H locs ls eq hy2 hl w => b_X10_change_j90 X  HR M1 (by subst eq; exact h1) (lv_sub hl [0] rfl) w)  FU 0 M_4 hq (inL rfl) (lv_sub hl [2, 0] rfl) w_M_4
    · replace hf := ite_f cd_2 hf
      refine g_bipush X dX10_change_17 (by decide) ?_
      exact HR (-3) M _ _ _ _ (Option.some.inj hf).symm (inL rfl) w dX10_change_19
  · replace hf := ite_t cd hf
    refine g_iconst X dX10_change_9 ?_
    exact HR (-1) M _ _ _ _ (Option.some.inj hf).symm (inL rfl) w dX10_change_10
set_option maxRecDepth 100000 in
set_option maxHeartbeats 4000000 in
theorem k_X10_change {l : Launch} {D : va_G} {aC : Nat → ClassId} {ad : Nat → Nat} {sg : SG} (hi : Inj ad)  {M : Mem} (hM : inM M) {r : Int} {M' : Mem} (hf : f_X10_change M = some (r, M')) : MetI l D aC ad sg yX10_change cX10_change 3 (some .int) rm_X10_change 0 0 [.ref (ad 0)] M r M' := by
  refine MetI.ofI (by decide +kernel) (nle rfl) hi hM (fun p e s m args below meth c Q H0 ls X hl w hret => ?_)
  exact b_X10_change_0 X  (fun r1 M1 H locs pc ls eo hP w dg => by cases eo; exact hret H locs pc ls hP w dg) M hf hl w
set_option maxRecDepth 100000 in
set_option maxHeartbeats 4000000 in
theorem b_X10_classOf_0 (X : CX p s m args c cX10_classOf 2 RX10 D aC ad sg A H0) {M : Mem} {o : Int} (HR : ∀ (r : Int) (H : Heap) (locs : List Loc) (pc : Nat) (ls : Array Slot), o = r → inR r → WS D aC ad A H0 M H locs → decode cX10_classOf pc = .ok (.ireturn, 1) → W p l e rm_X10_classOf s m args below meth c H locs 0 0 Q (F0 m pc ls [.int (i2 r)])) (p1 : Int) (hp1 : inR p1) (hf : f_X10_classOf p1 M = some o) {H : Heap} {locs : List Loc} {ls : Array Slot} (hl : lv_has ls 2 [(0, .ref (ad 0)), (1, .int (i2 p1))]) (w : WS D aC ad A H0 M H locs) : W p l e rm_X10_classOf s m args below meth c H locs 0 0 Q (F0 m 0 ls []) := by
  have hx := X.1.1
  have hb := X.1.2.1
  unfold f_X10_classOf at hf
  refine lv_aload_n hx hb dX10_classOf_0 rfl (lv_at hl 0 rfl) ?_
  refine g_getr X w fg_X10_10 KD_0 FR_0_0 dX10_classOf_1 ?_
  refine lv_iload_n hx hb dX10_classOf_4 rfl (lv_at hl 1 rfl) ?_
  obtain ⟨r, hc, hf⟩ := obn_some hf
  refine g_cvi (As := [.int (i2 p1)]) (rest := []) X w (k_X1_has X.2.2.1 p1 hp1 w.2.2 hc) lk_X10_120 cl_1 KD_3 ⟨rfl, rfl⟩ ⟨nle rfl, nle rfl⟩ ⟨nle rfl, nle rfl⟩ hl.1 rfl (nle rfl) dX10_classOf_5 (fun hr H locs w => ?_)
  refine g_if_eq (tgt := 20) X hr dX10_classOf_8 (by decide) (fun cd => ?_) (fun cd => ?_)
  · replace hf := ite_t cd hf
    refine g_iconst X dX10_classOf_20 ?_
    exact HR (-1) _ _ _ _ (Option.some.inj hf).symm (inL rfl) w dX10_classOf_21
  · replace hf := ite_f cd hf
    refine lv_aload_n hx hb dX10_classOf_11 rfl (lv_at hl 0 rfl) ?_
    refine g_getr X w fg_X10_78 KD_0 FR_0_9 dX10_classOf_12 ?_
    refine lv_iload_n hx hb dX10_classOf_15 rfl (lv_at hl 1 rfl) ?_
    obtain ⟨hg, hf⟩ := gd_some hf
    refine g_iald X w KD_1 hp1 hg dX10_classOf_16 ?_
    refine lv_goto (tgt := 21) hx hb dX10_classOf_17 (by decide) ?_
    exact HR (M 1 p1.toNat) _ _ _ _ (Option.some.inj hf).symm (w.2.2 _ _) w dX10_classOf_21
set_option maxRecDepth 100000 in
set_option maxHeartbeats 4000000 in
theorem k_X10_classOf {l : Launch} {D : va_G} {aC : Nat → ClassId} {ad : Nat → Nat} {sg : SG} (hi : Inj ad) (p1 : Int) (hp1 : inR p1) {M : Mem} (hM : inM M) {r : Int} (hf : f_X10_classOf p1 M = some r) : MetI l D aC ad sg yX10_classOf cX10_classOf 2 (some .int) rm_X10_classOf 0 0 [.ref (ad 0), .int (i2 p1)] M r M := by
  refine MetI.ofI (by decide +kernel) (nle rfl) hi hM (fun p e s m args below meth c Q H0 ls X hl w hret => ?_)
  exact b_X10_classOf_0 X  (fun r1 H locs pc ls eo hP w dg => by cases eo; exact hret H locs pc ls hP w dg) p1 hp1 hf hl w
set_option maxRecDepth 100000 in
set_option maxHeartbeats 4000000 in
theorem b_X10_was_0 (X : CX p s m args c cX10_was 3 RX10 D aC ad sg A H0) {M : Mem} {o : Int} (HR : ∀ (r : Int) (H : Heap) (locs : List Loc) (pc : Nat) (ls : Array Slot), o = r → inR r → WS D aC ad A H0 M H locs → decode cX10_was pc = .ok (.ireturn, 1) → W p l e rm_X10_was s m args below meth c H locs 0 0 Q (F0 m pc ls [.int (i2 r)])) (p1 : Int) (hp1 : inR p1) (p2 : Int) (hp2 : inR p2) (hf : f_X10_was p1 p2 M = some o) {H : Heap} {locs : List Loc} {ls : Array Slot} (hl : lv_has ls 3 [(0, .ref (ad 0)), (1, .int (i2 p1)), (2, .int (i2 p2))]) (w : WS D aC ad A H0 M H locs) : W p l e rm_X10_was s m args below meth c H locs 0 0 Q (F0 m 0 ls []) := by
  have hx := X.1.1
  have hb := X.1.2.1
  unfold f_X10_was at hf
  refine lv_aload_n hx hb dX10_was_0 rfl (lv_at hl 0 rfl) ?_
  refine g_getr X w fg_X10_10 KD_0 FR_0_0 dX10_was_1 ?_
  refine lv_iload_n hx hb dX10_was_4 rfl (lv_at hl 1 rfl) ?_
  obtain ⟨r, hc, hf⟩ := obn_some hf
  refine g_cvi (As := [.int (i2 p1)]) (rest := []) X w (k_X1_has X.2.2.1 p1 hp1 w.2.2 hc) lk_X10_120 cl_1 KD_3 ⟨rfl, rfl⟩ ⟨nle rfl, nle rfl⟩ ⟨nle rfl, nle rfl⟩ hl.1 rfl (nle rfl) dX10_was_5 (fun hr H locs w => ?_)
  refine g_if_eq (tgt := 19) X hr dX10_was_8 (by decide) (fun cd => ?_) (fun cd => ?_)
  · replace hf := ite_t cd hf
    refine g_iconst X dX10_was_19 ?_
    exact HR (-1) _ _ _ _ (Option.some.inj hf).symm (inL rfl) w dX10_was_20
  · replace hf := ite_f cd hf
    refine lv_aload_n hx hb dX10_was_11 rfl (lv_at hl 0 rfl) ?_
    refine lv_iload_n hx hb dX10_was_12 rfl (lv_at hl 2 rfl) ?_
    obtain ⟨r_2, hc, hf⟩ := obn_some hf
    refine g_cvi (As := [.int (i2 p2)]) (rest := []) X w (k_X10_isDay X.2.2.1 p2 hp2 w.2.2 hc) lk_X10_180 cl_10 KD_0 ⟨rfl, rfl⟩ ⟨nle rfl, nle rfl⟩ ⟨nle rfl, nle rfl⟩ hl.1 rfl (nle rfl) dX10_was_13 (fun hr_2 H locs w => ?_)
    refine g_if_ne (tgt := 21) X hr_2 dX10_was_16 (by decide) (fun cd_2 => ?_) (fun cd_2 => ?_)
    · replace hf := ite_f cd_2 hf
      refine lv_iload_n hx hb dX10_was_21 rfl (lv_at hl 2 rfl) ?_
      refine lv_aload_n hx hb dX10_was_22 rfl (lv_at hl 0 rfl) ?_
      refine g_geti X w fg_X10_113 KD_0 FR_0_13 dX10_was_23 ?_
      refine g_icmp_ne (tgt := 38) X hp2 (w.2.2 _ _) dX10_was_26 (by decide) (fun cd_3 => ?_) (fun cd_3 => ?_)
      · replace hf := ite_f cd_3 hf
        refine lv_aload_n hx hb dX10_was_38 rfl (lv_at hl 0 rfl) ?_
        refine g_getr X w fg_X10_74 KD_0 FR_0_8 dX10_was_39 ?_
        refine lv_iload_n hx hb dX10_was_42 rfl (lv_at hl 1 rfl) ?_
        refine lv_iload_n hx hb dX10_was_43 rfl (lv_at hl 2 rfl) ?_
        obtain ⟨r_3, hc, hf⟩ := obn_some hf
        refine g_cvi (As := [.int (i2 p1), .int (i2 p2)]) (rest := []) X w (k_X0_seatAt X.2.2.1 p1 hp1 p2 hp2 w.2.2 hc) lk_X10_258 cl_0 KD_57 ⟨rfl, rfl⟩ ⟨nle rfl, nle rfl⟩ ⟨nle rfl, nle rfl⟩ hl.1 rfl (nle rfl) dX10_was_44 (fun hr_3 H locs w => ?_)
        exact HR r_3 _ _ _ _ (Option.some.inj hf).symm hr_3 w dX10_was_47
      · replace hf := ite_t cd_3 hf
        refine lv_aload_n hx hb dX10_was_29 rfl (lv_at hl 0 rfl) ?_
        refine g_getr X w fg_X10_78 KD_0 FR_0_9 dX10_was_30 ?_
        refine lv_iload_n hx hb dX10_was_33 rfl (lv_at hl 1 rfl) ?_
        obtain ⟨hg, hf⟩ := gd_some hf
        refine g_iald X w KD_1 hp1 hg dX10_was_34 ?_
        refine lv_goto (tgt := 47) hx hb dX10_was_35 (by decide) ?_
        exact HR (M 1 p1.toNat) _ _ _ _ (Option.some.inj hf).symm (w.2.2 _ _) w dX10_was_47
    · replace hf := ite_t cd_2 hf
      refine g_iconst X dX10_was_19 ?_
      exact HR (-1) _ _ _ _ (Option.some.inj hf).symm (inL rfl) w dX10_was_20
set_option maxRecDepth 100000 in
set_option maxHeartbeats 4000000 in
theorem k_X10_was {l : Launch} {D : va_G} {aC : Nat → ClassId} {ad : Nat → Nat} {sg : SG} (hi : Inj ad) (p1 : Int) (hp1 : inR p1) (p2 : Int) (hp2 : inR p2) {M : Mem} (hM : inM M) {r : Int} (hf : f_X10_was p1 p2 M = some r) : MetI l D aC ad sg yX10_was cX10_was 3 (some .int) rm_X10_was 0 0 [.ref (ad 0), .int (i2 p1), .int (i2 p2)] M r M := by
  refine MetI.ofI (by decide +kernel) (nle rfl) hi hM (fun p e s m args below meth c Q H0 ls X hl w hret => ?_)
  exact b_X10_was_0 X  (fun r1 H locs pc ls eo hP w dg => by cases eo; exact hret H locs pc ls hP w dg) p1 hp1 p2 hp2 hf hl w
set_option maxRecDepth 100000 in
set_option maxHeartbeats 4000000 in
theorem b_X10_served_0 (X : CX p s m args c cX10_served 2 RX10 D aC ad sg A H0) {o : Int × Mem} (HR : ∀ (r : Int) (M1 : Mem) (H : Heap) (locs : List Loc) (pc : Nat) (ls : Array Slot), o = (r, M1) → inR r → WS D aC ad A H0 M1 H locs → decode cX10_served pc = .ok (.ireturn, 1) → W p l e rm_X10_served s m args below meth c H locs 0 0 Q (F0 m pc ls [.int (i2 r)])) (p1 : Int) (hp1 : inR p1) (M : Mem) (hf : f_X10_served p1 M = some o) {H : Heap} {locs : List Loc} {ls : Array Slot} (hl : lv_has ls 2 [(0, .ref (ad 0)), (1, .int (i2 p1))]) (w : WS D aC ad A H0 M H locs) : W p l e rm_X10_served s m args below meth c H locs 0 0 Q (F0 m 0 ls []) := by
  have hx := X.1.1
  have hb := X.1.2.1
  unfold f_X10_served at hf
  refine lv_aload_n hx hb dX10_served_0 rfl (lv_at hl 0 rfl) ?_
  refine g_getr X w fg_X10_10 KD_0 FR_0_0 dX10_served_1 ?_
  refine lv_iload_n hx hb dX10_served_4 rfl (lv_at hl 1 rfl) ?_
  obtain ⟨r, hc, hf⟩ := obn_some hf
  refine g_cvi (As := [.int (i2 p1)]) (rest := []) X w (k_X1_has X.2.2.1 p1 hp1 w.2.2 hc) lk_X10_120 cl_1 KD_3 ⟨rfl, rfl⟩ ⟨nle rfl, nle rfl⟩ ⟨nle rfl, nle rfl⟩ hl.1 rfl (nle rfl) dX10_served_5 (fun hr H locs w => ?_)
  refine g_if_eq (tgt := 21) X hr dX10_served_8 (by decide) (fun cd => ?_) (fun cd => ?_)
  · replace hf := ite_t cd hf
    refine g_iconst X dX10_served_21 ?_
    exact HR (-1) M _ _ _ _ (Option.some.inj hf).symm (inL rfl) w dX10_served_22
  · replace hf := ite_f cd hf
    refine lv_aload_n hx hb dX10_served_11 rfl (lv_at hl 0 rfl) ?_
    refine g_getr X w fg_X10_78 KD_0 FR_0_9 dX10_served_12 ?_
    refine lv_iload_n hx hb dX10_served_15 rfl (lv_at hl 1 rfl) ?_
    obtain ⟨hg, hf⟩ := gd_some hf
    refine g_iald X w KD_1 hp1 hg dX10_served_16 ?_
    refine g_iconst X dX10_served_17 ?_
    refine g_icmp_ne (tgt := 23) X (w.2.2 _ _) (inL rfl) dX10_served_18 (by decide) (fun cd_2 => ?_) (fun cd_2 => ?_)
    · replace hf := ite_f cd_2 hf
      refine lv_aload_n hx hb dX10_served_23 rfl (lv_at hl 0 rfl) ?_
      obtain ⟨M_2, hc, hf⟩ := obn_some hf
      refine g_cvv (As := []) (rest := []) X w (k_X10_gatherList X.2.2.1  w.2.2 hc) lk_X10_228 cl_10 KD_0 ⟨rfl, rfl⟩ ⟨nle rfl, nle rfl⟩ ⟨nle rfl, nle rfl⟩ hl.1 rfl (nle rfl) dX10_served_24 (fun H locs w_M_2 => ?_)
      refine lv_aload_n hx hb dX10_served_27 rfl (lv_at hl 0 rfl) ?_
      refine g_getr X w_M_2 fg_X10_10 KD_0 FR_0_0 dX10_served_28 ?_
      refine lv_iload_n hx hb dX10_served_31 rfl (lv_at hl 1 rfl) ?_
      refine lv_aload_n hx hb dX10_served_32 rfl (lv_at hl 0 rfl) ?_
      refine g_getr X w_M_2 fg_X10_88 KD_0 FR_0_10 dX10_served_33 ?_
      refine lv_aload_n hx hb dX10_served_36 rfl (lv_at hl 0 rfl) ?_
      refine g_getr X w_M_2 fg_X10_78 KD_0 FR_0_9 dX10_served_37 ?_
      refine lv_iload_n hx hb dX10_served_40 rfl (lv_at hl 1 rfl) ?_
      obtain ⟨hg_2, hf⟩ := gd_some hf
      refine g_iald X w_M_2 KD_1 hp1 hg_2 dX10_served_41 ?_
      obtain ⟨hg_3, hf⟩ := gd_some hf
      refine g_iald X w_M_2 KD_2 (w_M_2.2.2 _ _) hg_3 dX10_served_42 ?_
      obtain ⟨r_2, hc, hf⟩ := obn_some hf
      refine g_cvi (As := [.int (i2 p1), .int (i2 (M_2 2 (M_2 1 p1.toNat).toNat))]) (rest := []) X w_M_2 (k_X1_bestWish X.2.2.1 p1 hp1 (M_2 2 (M_2 1 p1.toNat).toNat) (w_M_2.2.2 _ _) w_M_2.2.2 hc) lk_X10_262 cl_1 KD_3 ⟨rfl, rfl⟩ ⟨nle rfl, nle rfl⟩ ⟨nle rfl, nle rfl⟩ hl.1 rfl (nle rfl) dX10_served_43 (fun hr_2 H locs w_M_2 => ?_)
      exact HR r_2 M_2 _ _ _ _ (Option.some.inj hf).symm hr_2 w_M_2 dX10_served_46
    · replace hf := ite_t cd_2 hf
      refine g_iconst X dX10_served_21 ?_
      exact HR (-1) M _ _ _ _ (Option.some.inj hf).symm (inL rfl) w dX10_served_22
set_option maxRecDepth 100000 in
set_option maxHeartbeats 4000000 in
theorem k_X10_served {l : Launch} {D : va_G} {aC : Nat → ClassId} {ad : Nat → Nat} {sg : SG} (hi : Inj ad) (p1 : Int) (hp1 : inR p1) {M : Mem} (hM : inM M) {r : Int} {M' : Mem} (hf : f_X10_served p1 M = some (r, M')) : MetI l D aC ad sg yX10_served cX10_served 2 (some .int) rm_X10_served 0 0 [.ref (ad 0), .int (i2 p1)] M r M' := by
  refine MetI.ofI (by decide +kernel) (nle rfl) hi hM (fun p e s m args below meth c Q H0 ls X hl w hret => ?_)
  exact b_X10_served_0 X  (fun r1 M1 H locs pc ls eo hP w dg => by cases eo; exact hret H locs pc ls hP w dg) p1 hp1 M hf hl w
set_option maxRecDepth 100000 in
set_option maxHeartbeats 4000000 in
theorem b_X10_harm_0 (X : CX p s m args c cX10_harm 2 RX10 D aC ad sg A H0) {o : Int × Mem} (HR : ∀ (r : Int) (M1 : Mem) (H : Heap) (locs : List Loc) (pc : Nat) (ls : Array Slot), o = (r, M1) → inR r → WS D aC ad A H0 M1 H locs → decode cX10_harm pc = .ok (.ireturn, 1) → W p l e rm_X10_harm s m args below meth c H locs 0 0 Q (F0 m pc ls [.int (i2 r)])) (p1 : Int) (hp1 : inR p1) (M : Mem) (hf : f_X10_harm p1 M = some o) {H : Heap} {locs : List Loc} {ls : Array Slot} (hl : lv_has ls 2 [(0, .ref (ad 0)), (1, .int (i2 p1))]) (w : WS D aC ad A H0 M H locs) : W p l e rm_X10_harm s m args below meth c H locs 0 0 Q (F0 m 0 ls []) := by
  have hx := X.1.1
  have hb := X.1.2.1
  unfold f_X10_harm at hf
  refine lv_aload_n hx hb dX10_harm_0 rfl (lv_at hl 0 rfl) ?_
  obtain ⟨r, hc, hf⟩ := obn_some hf
  refine g_cvi (As := []) (rest := []) X w (k_X10_countListed X.2.2.1  w.2.2 hc) lk_X10_239 cl_10 KD_0 ⟨rfl, rfl⟩ ⟨nle rfl, nle rfl⟩ ⟨nle rfl, nle rfl⟩ hl.1 rfl (nle rfl) dX10_harm_1 (fun hr H locs w => ?_)
  refine g_if_eq (tgt := 24) X hr dX10_harm_4 (by decide) (fun cd => ?_) (fun cd => ?_)
  · replace hf := ite_t cd hf
    refine g_iconst X dX10_harm_24 ?_
    exact HR (-1) M _ _ _ _ (Option.some.inj hf).symm (inL rfl) w dX10_harm_25
  · replace hf := ite_f cd hf
    refine lv_iload_n hx hb dX10_harm_7 rfl (lv_at hl 1 rfl) ?_
    refine g_iconst X dX10_harm_8 ?_
    refine lv_aload_n hx hb dX10_harm_9 rfl (lv_at hl 0 rfl) ?_
    obtain ⟨hru, hf⟩ := gd_some hf
    refine g_getd X w fg_X10_94 KD_0 FR_0_11 hru dX10_harm_10 ?_
    refine g_geti X w fg_X10_174 (KD_ru hru) (FR_ru_0 hru) dX10_harm_13 ?_
    refine g_iconst X dX10_harm_16 ?_
    refine g_isub X dX10_harm_17 ?_
    obtain ⟨r_2, hc, hf⟩ := obn_some hf
    refine g_csi (As := [.int (i2 p1), .int (i2 (-1)), .int (i2 (wrap ((M ((M 0 11).toNat) 0) - 1)))]) (rest := []) X w (k_X10_within X.2.2.1 p1 hp1 (-1) (inL rfl) (wrap ((M ((M 0 11).toNat) 0) - 1)) (inR_wrap _) w.2.2 hc) lk_X10_105 ⟨rfl, rfl⟩ ⟨nle rfl, nle rfl⟩ ⟨nle rfl, nle rfl⟩ hl.1 rfl (nle rfl) dX10_harm_18 (fun hr_2 H locs w => ?_)
    refine g_if_ne (tgt := 26) X hr_2 dX10_harm_21 (by decide) (fun cd_2 => ?_) (fun cd_2 => ?_)
    · replace hf := ite_f cd_2 hf
      refine lv_aload_n hx hb dX10_harm_26 rfl (lv_at hl 0 rfl) ?_
      refine g_getr X w fg_X10_44 KD_0 FR_0_4 dX10_harm_27 ?_
      refine lv_aload_n hx hb dX10_harm_30 rfl (lv_at hl 0 rfl) ?_
      obtain ⟨hru_2, hf⟩ := gd_some hf
      refine g_getd X w fg_X10_94 KD_0 FR_0_11 hru_2 dX10_harm_31 ?_
      refine lv_aload_n hx hb dX10_harm_34 rfl (lv_at hl 0 rfl) ?_
      refine g_geti X w fg_X10_113 KD_0 FR_0_13 dX10_harm_35 ?_
      obtain ⟨M_2, hc, hf⟩ := obn_some hf
      refine g_cvv (As := [.ref (ad ((M 0 11).toNat)), .int (i2 (M 0 13))]) (rest := []) X w (k_X4_prepare X.2.2.1 (M 0 11) hru_2 (M 0 13) (w.2.2 _ _) w.2.2 hc) lk_X10_186 cl_4 KD_30 ⟨rfl, rfl⟩ ⟨nle rfl, nle rfl⟩ ⟨nle rfl, nle rfl⟩ hl.1 rfl (nle rfl) dX10_harm_38 (fun H locs w_M_2 => ?_)
      refine lv_aload_n hx hb dX10_harm_41 rfl (lv_at hl 0 rfl) ?_
      obtain ⟨M_3, hc, hf⟩ := obn_some hf
      refine g_cvv (As := []) (rest := []) X w_M_2 (k_X10_gatherList X.2.2.1  w_M_2.2.2 hc) lk_X10_228 cl_10 KD_0 ⟨rfl, rfl⟩ ⟨nle rfl, nle rfl⟩ ⟨nle rfl, nle rfl⟩ hl.1 rfl (nle rfl) dX10_harm_42 (fun H locs w_M_3 => ?_)
      refine lv_iload_n hx hb dX10_harm_45 rfl (lv_at hl 1 rfl) ?_
      refine g_iconst X dX10_harm_46 ?_
      refine g_icmp_ne (tgt := 64) X hp1 (inL rfl) dX10_harm_47 (by decide) (fun cd_3 => ?_) (fun cd_3 => ?_)
      · replace hf := ite_f cd_3 hf
        refine lv_aload_n hx hb dX10_harm_64 rfl (lv_at hl 0 rfl) ?_
        refine g_getr X w_M_3 fg_X10_44 KD_0 FR_0_4 dX10_harm_65 ?_
        refine lv_iload_n hx hb dX10_harm_68 rfl (lv_at hl 1 rfl) ?_
        refine lv_aload_n hx hb dX10_harm_69 rfl (lv_at hl 0 rfl) ?_
        refine g_getr X w_M_3 fg_X10_88 KD_0 FR_0_10 dX10_harm_70 ?_
        obtain ⟨r_3, hc, hf⟩ := obn_some hf
        refine g_cvi (As := [.int (i2 p1), .ref (ad 2)]) (rest := []) X w_M_3 (k_X4_harmBy X.2.2.1 p1 hp1 2 KA_2 w_M_3.2.2 hc) lk_X10_265 cl_4 KD_30 ⟨rfl, rfl⟩ ⟨nle rfl, nle rfl⟩ ⟨nle rfl, nle rfl⟩ hl.1 rfl (nle rfl) dX10_harm_73 (fun hr_3 H locs w_M_3 => ?_)
        exact HR r_3 M_3 _ _ _ _ (Option.some.inj hf).symm hr_3 w_M_3 dX10_harm_76
      · replace hf := ite_t cd_3 hf
        refine lv_aload_n hx hb dX10_harm_50 rfl (lv_at hl 0 rfl) ?_
        refine g_getr X w_M_3 fg_X10_44 KD_0 FR_0_4 dX10_harm_51 ?_
        refine lv_aload_n hx hb dX10_harm_54 rfl (lv_at hl 0 rfl) ?_
        refine g_getr X w_M_3 fg_X10_88 KD_0 FR_0_10 dX10_harm_55 ?_
        obtain ⟨r_4, hc, hf⟩ := obn_some hf
        refine g_cvi (As := [.ref (ad 2)]) (rest := []) X w_M_3 (k_X4_harmOf X.2.2.1 2 KA_2 w_M_3.2.2 hc) lk_X10_235 cl_4 KD_30 ⟨rfl, rfl⟩ ⟨nle rfl, nle rfl⟩ ⟨nle rfl, nle rfl⟩ hl.1 rfl (nle rfl) dX10_harm_58 (fun hr_4 H locs w_M_3 => ?_)
        refine lv_goto (tgt := 76) hx hb dX10_harm_61 (by decide) ?_
        exact HR r_4 M_3 _ _ _ _ (Option.some.inj hf).symm hr_4 w_M_3 dX10_harm_76
    · replace hf := ite_t cd_2 hf
      refine g_iconst X dX10_harm_24 ?_
      exact HR (-1) M _ _ _ _ (Option.some.inj hf).symm (inL rfl) w dX10_harm_25
set_option maxRecDepth 100000 in
set_option maxHeartbeats 4000000 in
theorem k_X10_harm {l : Launch} {D : va_G} {aC : Nat → ClassId} {ad : Nat → Nat} {sg : SG} (hi : Inj ad) (p1 : Int) (hp1 : inR p1) {M : Mem} (hM : inM M) {r : Int} {M' : Mem} (hf : f_X10_harm p1 M = some (r, M')) : MetI l D aC ad sg yX10_harm cX10_harm 2 (some .int) rm_X10_harm 0 0 [.ref (ad 0), .int (i2 p1)] M r M' := by
  refine MetI.ofI (by decide +kernel) (nle rfl) hi hM (fun p e s m args below meth c Q H0 ls X hl w hret => ?_)
  exact b_X10_harm_0 X  (fun r1 M1 H locs pc ls eo hP w dg => by cases eo; exact hret H locs pc ls hP w dg) p1 hp1 M hf hl w
set_option maxRecDepth 100000 in
set_option maxHeartbeats 4000000 in
theorem b_X10_allowed_0 (X : CX p s m args c cX10_allowed 2 RX10 D aC ad sg A H0) {o : Int × Mem} (HR : ∀ (r : Int) (M1 : Mem) (H : Heap) (locs : List Loc) (pc : Nat) (ls : Array Slot), o = (r, M1) → inR r → WS D aC ad A H0 M1 H locs → decode cX10_allowed pc = .ok (.ireturn, 1) → W p l e rm_X10_allowed s m args below meth c H locs 0 0 Q (F0 m pc ls [.int (i2 r)])) (p1 : Int) (hp1 : inR p1) (M : Mem) (hf : f_X10_allowed p1 M = some o) {H : Heap} {locs : List Loc} {ls : Array Slot} (hl : lv_has ls 2 [(0, .ref (ad 0)), (1, .int (i2 p1))]) (w : WS D aC ad A H0 M H locs) : W p l e rm_X10_allowed s m args below meth c H locs 0 0 Q (F0 m 0 ls []) := by
  have hx := X.1.1
  have hb := X.1.2.1
  unfold f_X10_allowed at hf
  refine lv_aload_n hx hb dX10_allowed_0 rfl (lv_at hl 0 rfl) ?_
  obtain ⟨r, hc, hf⟩ := obn_some hf
  refine g_cvi (As := []) (rest := []) X w (k_X10_countListed X.2.2.1  w.2.2 hc) lk_X10_239 cl_10 KD_0 ⟨rfl, rfl⟩ ⟨nle rfl, nle rfl⟩ ⟨nle rfl, nle rfl⟩ hl.1 rfl (nle rfl) dX10_allowed_1 (fun hr H locs w => ?_)
  refine g_if_eq (tgt := 16) X hr dX10_allowed_4 (by decide) (fun cd => ?_) (fun cd => ?_)
  · replace hf := ite_t cd hf
    refine g_iconst X dX10_allowed_16 ?_
    exact HR (-1) M _ _ _ _ (Option.some.inj hf).symm (inL rfl) w dX10_allowed_17
  · replace hf := ite_f cd hf
    refine lv_iload_n hx hb dX10_allowed_7 rfl (lv_at hl 1 rfl) ?_
    refine g_iconst X dX10_allowed_8 ?_
    refine g_iconst X dX10_allowed_9 ?_
    obtain ⟨r_2, hc, hf⟩ := obn_some hf
    refine g_csi (As := [.int (i2 p1), .int (i2 0), .int (i2 1)]) (rest := []) X w (k_X10_within X.2.2.1 p1 hp1 0 (inL rfl) 1 (inL rfl) w.2.2 hc) lk_X10_105 ⟨rfl, rfl⟩ ⟨nle rfl, nle rfl⟩ ⟨nle rfl, nle rfl⟩ hl.1 rfl (nle rfl) dX10_allowed_10 (fun hr_2 H locs w => ?_)
    refine g_if_ne (tgt := 18) X hr_2 dX10_allowed_13 (by decide) (fun cd_2 => ?_) (fun cd_2 => ?_)
    · replace hf := ite_f cd_2 hf
      refine lv_aload_n hx hb dX10_allowed_18 rfl (lv_at hl 0 rfl) ?_
      refine g_getr X w fg_X10_44 KD_0 FR_0_4 dX10_allowed_19 ?_
      refine lv_aload_n hx hb dX10_allowed_22 rfl (lv_at hl 0 rfl) ?_
      obtain ⟨hru, hf⟩ := gd_some hf
      refine g_getd X w fg_X10_94 KD_0 FR_0_11 hru dX10_allowed_23 ?_
      refine lv_aload_n hx hb dX10_allowed_26 rfl (lv_at hl 0 rfl) ?_
      refine g_geti X w fg_X10_113 KD_0 FR_0_13 dX10_allowed_27 ?_
      obtain ⟨M_2, hc, hf⟩ := obn_some hf
      refine g_cvv (As := [.ref (ad ((M 0 11).toNat)), .int (i2 (M 0 13))]) (rest := []) X w (k_X4_prepare X.2.2.1 (M 0 11) hru (M 0 13) (w.2.2 _ _) w.2.2 hc) lk_X10_186 cl_4 KD_30 ⟨rfl, rfl⟩ ⟨nle rfl, nle rfl⟩ ⟨nle rfl, nle rfl⟩ hl.1 rfl (nle rfl) dX10_allowed_30 (fun H locs w_M_2 => ?_)
      refine lv_aload_n hx hb dX10_allowed_33 rfl (lv_at hl 0 rfl) ?_
      obtain ⟨M_3, hc, hf⟩ := obn_some hf
      refine g_cvv (As := []) (rest := []) X w_M_2 (k_X10_gatherList X.2.2.1  w_M_2.2.2 hc) lk_X10_228 cl_10 KD_0 ⟨rfl, rfl⟩ ⟨nle rfl, nle rfl⟩ ⟨nle rfl, nle rfl⟩ hl.1 rfl (nle rfl) dX10_allowed_34 (fun H locs w_M_3 => ?_)
      refine lv_iload_n hx hb dX10_allowed_37 rfl (lv_at hl 1 rfl) ?_
      refine g_iconst X dX10_allowed_38 ?_
      refine g_icmp_ne (tgt := 54) X hp1 (inL rfl) dX10_allowed_39 (by decide) (fun cd_3 => ?_) (fun cd_3 => ?_)
      · replace hf := ite_f cd_3 hf
        refine lv_aload_n hx hb dX10_allowed_54 rfl (lv_at hl 0 rfl) ?_
        refine g_getr X w_M_3 fg_X10_44 KD_0 FR_0_4 dX10_allowed_55 ?_
        refine lv_aload_n hx hb dX10_allowed_58 rfl (lv_at hl 0 rfl) ?_
        refine g_getr X w_M_3 fg_X10_88 KD_0 FR_0_10 dX10_allowed_59 ?_
        obtain ⟨r_3, hc, hf⟩ := obn_some hf
        refine g_cvi (As := [.ref (ad 2)]) (rest := []) X w_M_3 (k_X4_allows X.2.2.1 2 KA_2 w_M_3.2.2 hc) lk_X10_231 cl_4 KD_30 ⟨rfl, rfl⟩ ⟨nle rfl, nle rfl⟩ ⟨nle rfl, nle rfl⟩ hl.1 rfl (nle rfl) dX10_allowed_62 (fun hr_3 H locs w_M_3 => ?_)
        refine g_if_eq (tgt := 72) X hr_3 dX10_allowed_65 (by decide) (fun cd_4 => ?_) (fun cd_4 => ?_)
        · replace hf := ite_t cd_4 hf
          refine g_iconst X dX10_allowed_72 ?_
          exact HR 0 M_3 _ _ _ _ (Option.some.inj hf).symm (inL rfl) w_M_3 dX10_allowed_73
        · replace hf := ite_f cd_4 hf
          refine g_iconst X dX10_allowed_68 ?_
          refine lv_goto (tgt := 73) hx hb dX10_allowed_69 (by decide) ?_
          exact HR 1 M_3 _ _ _ _ (Option.some.inj hf).symm (inL rfl) w_M_3 dX10_allowed_73
      · replace hf := ite_t cd_3 hf
        refine lv_aload_n hx hb dX10_allowed_42 rfl (lv_at hl 0 rfl) ?_
        refine g_getr X w_M_3 fg_X10_44 KD_0 FR_0_4 dX10_allowed_43 ?_
        refine lv_aload_n hx hb dX10_allowed_46 rfl (lv_at hl 0 rfl) ?_
        refine g_getr X w_M_3 fg_X10_88 KD_0 FR_0_10 dX10_allowed_47 ?_
        obtain ⟨r_4, hc, hf⟩ := obn_some hf
        refine g_cvi (As := [.ref (ad 2)]) (rest := []) X w_M_3 (k_X4_lackOf X.2.2.1 2 KA_2 w_M_3.2.2 hc) lk_X10_269 cl_4 KD_30 ⟨rfl, rfl⟩ ⟨nle rfl, nle rfl⟩ ⟨nle rfl, nle rfl⟩ hl.1 rfl (nle rfl) dX10_allowed_50 (fun hr_4 H locs w_M_3 => ?_)
        exact HR r_4 M_3 _ _ _ _ (Option.some.inj hf).symm hr_4 w_M_3 dX10_allowed_53
    · replace hf := ite_t cd_2 hf
      refine g_iconst X dX10_allowed_16 ?_
      exact HR (-1) M _ _ _ _ (Option.some.inj hf).symm (inL rfl) w dX10_allowed_17
set_option maxRecDepth 100000 in
set_option maxHeartbeats 4000000 in
theorem k_X10_allowed {l : Launch} {D : va_G} {aC : Nat → ClassId} {ad : Nat → Nat} {sg : SG} (hi : Inj ad) (p1 : Int) (hp1 : inR p1) {M : Mem} (hM : inM M) {r : Int} {M' : Mem} (hf : f_X10_allowed p1 M = some (r, M')) : MetI l D aC ad sg yX10_allowed cX10_allowed 2 (some .int) rm_X10_allowed 0 0 [.ref (ad 0), .int (i2 p1)] M r M' := by
  refine MetI.ofI (by decide +kernel) (nle rfl) hi hM (fun p e s m args below meth c Q H0 ls X hl w hret => ?_)
  exact b_X10_allowed_0 X  (fun r1 M1 H locs pc ls eo hP w dg => by cases eo; exact hret H locs pc ls hP w dg) p1 hp1 M hf hl w
set_option maxRecDepth 100000 in
set_option maxHeartbeats 4000000 in
theorem b_X10_bettersBoth_j157 (X : CX p s m args c cX10_bettersBoth 9 RX10 D aC ad sg A H0) {o : Int × Mem} (HR : ∀ (r : Int) (M1 : Mem) (H : Heap) (locs : List Loc) (pc : Nat) (ls : Array Slot), o = (r, M1) → isZ r → WS D aC ad A H0 M1 H locs → decode cX10_bettersBoth pc = .ok (.ireturn, 1) → W p l e rm_X10_bettersBoth s m args below meth c H locs 0 0 Q (F0 m pc ls [.int (i2 r)])) (v3 : Int) (hv3 : inR v3) (v4 : Int) (hv4 : inR v4) (v5 : Int) (hv5 : inR v5) (s0 : Int) (hs0 : inR s0) (M : Mem) (hf : f_X10_bettersBoth_j157 v3 v4 v5 s0 M = some o) {H : Heap} {locs : List Loc} {ls : Array Slot} (hl : lv_has ls 9 [(0, .ref (ad 0)), (3, .int (i2 v3)), (4, .int (i2 v4)), (5, .int (i2 v5))]) (w : WS D aC ad A H0 M H locs) : W p l e rm_X10_bettersBoth s m args below meth c H locs 0 0 Q (F0 m 157 ls [.int (i2 s0)]) := by
  have hx := X.1.1
  have hb := X.1.2.1
  unfold f_X10_bettersBoth_j157 at hf
  refine g_ist (v := s0) (lv' := [(8, .int (i2 s0)), (0, .ref (ad 0)), (3, .int (i2 v3)), (4, .int (i2 v4)), (5, .int (i2 v5))]) X rfl dX10_bettersBoth_157 hl (by decide) rfl (fun ls hl => ?_)
  refine lv_aload_n hx hb dX10_bettersBoth_159 rfl (lv_at hl 1 rfl) ?_
  refine g_getr X w fg_X10_88 KD_0 FR_0_10 dX10_bettersBoth_160 ?_
  refine lv_iload_n hx hb dX10_bettersBoth_163 rfl (lv_at hl 2 rfl) ?_
  refine lv_dup2_11 hx hb dX10_bettersBoth_164 rfl rfl ?_
  obtain ⟨hg, hf⟩ := gd_some hf
  refine g_iald X w KD_2 hv3 hg dX10_bettersBoth_165 ?_
  refine lv_iload hx hb dX10_bettersBoth_166 (lv_at hl 4 rfl) ?_
  refine g_ixor X dX10_bettersBoth_168 ?_
  obtain ⟨hg_2, hf⟩ := gd_some hf
  obtain ⟨M_2, eM_2, hf⟩ := lt_some hf
  refine g_iast X w KD_2 hv3 hg_2 (inR_toInt _) dX10_bettersBoth_169 (fun H locs w_M_2 => ?_)
  rw [← eM_2] at w_M_2
  refine lv_aload_n hx hb dX10_bettersBoth_170 rfl (lv_at hl 1 rfl) ?_
  refine g_getr X w_M_2 fg_X10_88 KD_0 FR_0_10 dX10_bettersBoth_171 ?_
  refine lv_iload hx hb dX10_bettersBoth_174 (lv_at hl 3 rfl) ?_
  refine lv_dup2_11 hx hb dX10_bettersBoth_176 rfl rfl ?_
  obtain ⟨hg_3, hf⟩ := gd_some hf
  refine g_iald X w_M_2 KD_2 hv4 hg_3 dX10_bettersBoth_177 ?_
  refine lv_iload hx hb dX10_bettersBoth_178 (lv_at hl 4 rfl) ?_
  refine g_ixor X dX10_bettersBoth_180 ?_
  obtain ⟨hg_4, hf⟩ := gd_some hf
  obtain ⟨M_3, eM_3, hf⟩ := lt_some hf
  refine g_iast X w_M_2 KD_2 hv4 hg_4 (inR_toInt _) dX10_bettersBoth_181 (fun H locs w_M_3 => ?_)
  rw [← eM_3] at w_M_3
  refine lv_iload hx hb dX10_bettersBoth_182 (lv_at hl 0 rfl) ?_
  obtain ⟨hz, hf⟩ := gd_some hf
  exact HR s0 M_3 _ _ _ _ (Option.some.inj hf).symm hz w_M_3 dX10_bettersBoth_184
set_option maxRecDepth 100000 in
set_option maxHeartbeats 4000000 in
theorem b_X10_bettersBoth_0 (X : CX p s m args c cX10_bettersBoth 9 RX10 D aC ad sg A H0) {o : Int × Mem} (HR : ∀ (r : Int) (M1 : Mem) (H : Heap) (locs : List Loc) (pc : Nat) (ls : Array Slot), o = (r, M1) → isZ r → WS D aC ad A H0 M1 H locs → decode cX10_bettersBoth pc = .ok (.ireturn, 1) → W p l e rm_X10_bettersBoth s m args below meth c H locs 0 0 Q (F0 m pc ls [.int (i2 r)])) (p1 : Int) (hp1 : inR p1) (p2 : Int) (hp2 : inR p2) (M : Mem) (hf : f_X10_bettersBoth p1 p2 M = some o) {H : Heap} {locs : List Loc} {ls : Array Slot} (hl : lv_has ls 9 [(0, .ref (ad 0)), (1, .int (i2 p1)), (2, .int (i2 p2))]) (w : WS D aC ad A H0 M H locs) : W p l e rm_X10_bettersBoth s m args below meth c H locs 0 0 Q (F0 m 0 ls []) := by
  have hx := X.1.1
  have hb := X.1.2.1
  unfold f_X10_bettersBoth at hf
  refine lv_aload_n hx hb dX10_bettersBoth_0 rfl (lv_at hl 0 rfl) ?_
  refine g_getr X w fg_X10_78 KD_0 FR_0_9 dX10_bettersBoth_1 ?_
  refine lv_iload_n hx hb dX10_bettersBoth_4 rfl (lv_at hl 1 rfl) ?_
  obtain ⟨hg, hf⟩ := gd_some hf
  refine g_iald X w KD_1 hp1 hg dX10_bettersBoth_5 ?_
  obtain ⟨v3, ev3, hf⟩ := lt_some hf
  have hv3 : inR v3 := inR_of ev3 (w.2.2 _ _)
  refine g_istn (v := v3) (lv' := [(3, .int (i2 v3)), (0, .ref (ad 0)), (1, .int (i2 p1)), (2, .int (i2 p2))]) X ev3 dX10_bettersBoth_6 rfl hl (by decide) rfl (fun ls hl => ?_)
  refine lv_aload_n hx hb dX10_bettersBoth_7 rfl (lv_at hl 1 rfl) ?_
  refine g_getr X w fg_X10_78 KD_0 FR_0_9 dX10_bettersBoth_8 ?_
  refine lv_iload_n hx hb dX10_bettersBoth_11 rfl (lv_at hl 3 rfl) ?_
  obtain ⟨hg_2, hf⟩ := gd_some hf
  refine g_iald X w KD_1 hp2 hg_2 dX10_bettersBoth_12 ?_
  obtain ⟨v4, ev4, hf⟩ := lt_some hf
  have hv4 : inR v4 := inR_of ev4 (w.2.2 _ _)
  refine g_ist (v := v4) (lv' := [(4, .int (i2 v4)), (3, .int (i2 v3)), (0, .ref (ad 0)), (1, .int (i2 p1)), (2, .int (i2 p2))]) X ev4 dX10_bettersBoth_13 hl (by decide) rfl (fun ls hl => ?_)
  refine lv_iload_n hx hb dX10_bettersBoth_15 rfl (lv_at hl 1 rfl) ?_
  refine g_iconst X dX10_bettersBoth_16 ?_
  refine g_icmp_eq (tgt := 32) X hv3 (inL rfl) dX10_bettersBoth_17 (by decide) (fun cd => ?_) (fun cd => ?_)
  · replace hf := ite_t cd hf
    refine g_iconst X dX10_bettersBoth_32 ?_
    exact HR 0 M _ _ _ _ (Option.some.inj hf).symm (Or.inl rfl) w dX10_bettersBoth_33
  · replace hf := ite_f cd hf
    refine lv_iload hx hb dX10_bettersBoth_20 (lv_at hl 0 rfl) ?_
    refine g_iconst X dX10_bettersBoth_22 ?_
    refine g_icmp_eq (tgt := 32) X hv4 (inL rfl) dX10_bettersBoth_23 (by decide) (fun cd_2 => ?_) (fun cd_2 => ?_)
    · replace hf := ite_t cd_2 hf
      refine g_iconst X dX10_bettersBoth_32 ?_
      exact HR 0 M _ _ _ _ (Option.some.inj hf).symm (Or.inl rfl) w dX10_bettersBoth_33
    · replace hf := ite_f cd_2 hf
      refine lv_iload_n hx hb dX10_bettersBoth_26 rfl (lv_at hl 1 rfl) ?_
      refine lv_iload hx hb dX10_bettersBoth_27 (lv_at hl 0 rfl) ?_
      refine g_icmp_ne (tgt := 34) X hv3 hv4 dX10_bettersBoth_29 (by decide) (fun cd_3 => ?_) (fun cd_3 => ?_)
      · replace hf := ite_f cd_3 hf
        refine g_iconst X dX10_bettersBoth_34 ?_
        refine lv_iload_n hx hb dX10_bettersBoth_35 rfl (lv_at hl 3 rfl) ?_
        refine g_ishl X dX10_bettersBoth_36 ?_
        refine g_iconst X dX10_bettersBoth_37 ?_
        refine lv_iload_n hx hb dX10_bettersBoth_38 rfl (lv_at hl 4 rfl) ?_
        refine g_ishl X dX10_bettersBoth_39 ?_
        refine g_ior X dX10_bettersBoth_40 ?_
        obtain ⟨v5, ev5, hf⟩ := lt_some hf
        have hv5 : inR v5 := inR_of ev5 (inR_toInt _)
        refine g_ist (v := v5) (lv' := [(5, .int (i2 v5)), (4, .int (i2 v4)), (3, .int (i2 v3)), (0, .ref (ad 0)), (1, .int (i2 p1)), (2, .int (i2 p2))]) X ev5 dX10_bettersBoth_41 hl (by decide) rfl (fun ls hl => ?_)
        refine lv_aload_n hx hb dX10_bettersBoth_43 rfl (lv_at hl 3 rfl) ?_
        refine g_getr X w fg_X10_10 KD_0 FR_0_0 dX10_bettersBoth_44 ?_
        refine lv_iload_n hx hb dX10_bettersBoth_47 rfl (lv_at hl 4 rfl) ?_
        refine lv_aload_n hx hb dX10_bettersBoth_48 rfl (lv_at hl 3 rfl) ?_
        refine g_getr X w fg_X10_88 KD_0 FR_0_10 dX10_bettersBoth_49 ?_
        refine lv_iload_n hx hb dX10_bettersBoth_52 rfl (lv_at hl 2 rfl) ?_
        obtain ⟨hg_3, hf⟩ := gd_some hf
        refine g_iald X w KD_2 hv3 hg_3 dX10_bettersBoth_53 ?_
        obtain ⟨r, hc, hf⟩ := obn_some hf
        refine g_cvi (As := [.int (i2 p1), .int (i2 (M 2 v3.toNat))]) (rest := []) X w (k_X1_bestWish X.2.2.1 p1 hp1 (M 2 v3.toNat) (w.2.2 _ _) w.2.2 hc) lk_X10_262 cl_1 KD_3 ⟨rfl, rfl⟩ ⟨nle rfl, nle rfl⟩ ⟨nle rfl, nle rfl⟩ hl.1 rfl (nle rfl) dX10_bettersBoth_54 (fun hr H locs w => ?_)
        refine g_ist (v := r) (lv' := [(6, .int (i2 r)), (5, .int (i2 v5)), (4, .int (i2 v4)), (3, .int (i2 v3)), (0, .ref (ad 0)), (1, .int (i2 p1)), (2, .int (i2 p2))]) X rfl dX10_bettersBoth_57 hl (by decide) rfl (fun ls hl => ?_)
        refine lv_aload_n hx hb dX10_bettersBoth_59 rfl (lv_at hl 4 rfl) ?_
        refine g_getr X w fg_X10_10 KD_0 FR_0_0 dX10_bettersBoth_60 ?_
        refine lv_iload_n hx hb dX10_bettersBoth_63 rfl (lv_at hl 6 rfl) ?_
        refine lv_aload_n hx hb dX10_bettersBoth_64 rfl (lv_at hl 4 rfl) ?_
        refine g_getr X w fg_X10_88 KD_0 FR_0_10 dX10_bettersBoth_65 ?_
        refine lv_iload hx hb dX10_bettersBoth_68 (lv_at hl 2 rfl) ?_
        obtain ⟨hg_4, hf⟩ := gd_some hf
        refine g_iald X w KD_2 hv4 hg_4 dX10_bettersBoth_70 ?_
        obtain ⟨r_2, hc, hf⟩ := obn_some hf
        refine g_cvi (As := [.int (i2 p2), .int (i2 (M 2 v4.toNat))]) (rest := []) X w (k_X1_bestWish X.2.2.1 p2 hp2 (M 2 v4.toNat) (w.2.2 _ _) w.2.2 hc) lk_X10_262 cl_1 KD_3 ⟨rfl, rfl⟩ ⟨nle rfl, nle rfl⟩ ⟨nle rfl, nle rfl⟩ hl.1 rfl (nle rfl) dX10_bettersBoth_71 (fun hr_2 H locs w => ?_)
        refine g_ist (v := r_2) (lv' := [(7, .int (i2 r_2)), (6, .int (i2 r)), (5, .int (i2 v5)), (4, .int (i2 v4)), (3, .int (i2 v3)), (0, .ref (ad 0)), (1, .int (i2 p1)), (2, .int (i2 p2))]) X rfl dX10_bettersBoth_74 hl (by decide) rfl (fun ls hl => ?_)
        refine lv_aload_n hx hb dX10_bettersBoth_76 rfl (lv_at hl 5 rfl) ?_
        refine g_getr X w fg_X10_88 KD_0 FR_0_10 dX10_bettersBoth_77 ?_
        refine lv_iload_n hx hb dX10_bettersBoth_80 rfl (lv_at hl 4 rfl) ?_
        refine lv_dup2_11 hx hb dX10_bettersBoth_81 rfl rfl ?_
        obtain ⟨hg_5, hf⟩ := gd_some hf
        refine g_iald X w KD_2 hv3 hg_5 dX10_bettersBoth_82 ?_
        refine lv_iload hx hb dX10_bettersBoth_83 (lv_at hl 2 rfl) ?_
        refine g_ixor X dX10_bettersBoth_85 ?_
        obtain ⟨hg_6, hf⟩ := gd_some hf
        obtain ⟨M_2, eM_2, hf⟩ := lt_some hf
        refine g_iast X w KD_2 hv3 hg_6 (inR_toInt _) dX10_bettersBoth_86 (fun H locs w_M_2 => ?_)
        rw [← eM_2] at w_M_2
        refine lv_aload_n hx hb dX10_bettersBoth_87 rfl (lv_at hl 5 rfl) ?_
        refine g_getr X w_M_2 fg_X10_88 KD_0 FR_0_10 dX10_bettersBoth_88 ?_
        refine lv_iload hx hb dX10_bettersBoth_91 (lv_at hl 3 rfl) ?_
        refine lv_dup2_11 hx hb dX10_bettersBoth_93 rfl rfl ?_
        obtain ⟨hg_7, hf⟩ := gd_some hf
        refine g_iald X w_M_2 KD_2 hv4 hg_7 dX10_bettersBoth_94 ?_
        refine lv_iload hx hb dX10_bettersBoth_95 (lv_at hl 2 rfl) ?_
        refine g_ixor X dX10_bettersBoth_97 ?_
        obtain ⟨hg_8, hf⟩ := gd_some hf
        obtain ⟨M_3, eM_3, hf⟩ := lt_some hf
        refine g_iast X w_M_2 KD_2 hv4 hg_8 (inR_toInt _) dX10_bettersBoth_98 (fun H locs w_M_3 => ?_)
        rw [← eM_3] at w_M_3
        refine lv_aload_n hx hb dX10_bettersBoth_99 rfl (lv_at hl 5 rfl) ?_
        refine g_getr X w_M_3 fg_X10_10 KD_0 FR_0_0 dX10_bettersBoth_100 ?_
        refine lv_iload_n hx hb dX10_bettersBoth_103 rfl (lv_at hl 6 rfl) ?_
        refine lv_aload_n hx hb dX10_bettersBoth_104 rfl (lv_at hl 5 rfl) ?_
        refine g_getr X w_M_3 fg_X10_88 KD_0 FR_0_10 dX10_bettersBoth_105 ?_
        refine lv_iload hx hb dX10_bettersBoth_108 (lv_at hl 3 rfl) ?_
        obtain ⟨hg_9, hf⟩ := gd_some hf
        refine g_iald X w_M_3 KD_2 hv4 hg_9 dX10_bettersBoth_110 ?_
        obtain ⟨r_3, hc, hf⟩ := obn_some hf
        refine g_cvi (As := [.int (i2 p1), .int (i2 (M_3 2 v4.toNat))]) (rest := []) X w_M_3 (k_X1_bestWish X.2.2.1 p1 hp1 (M_3 2 v4.toNat) (w_M_3.2.2 _ _) w_M_3.2.2 hc) lk_X10_262 cl_1 KD_3 ⟨rfl, rfl⟩ ⟨nle rfl, nle rfl⟩ ⟨nle rfl, nle rfl⟩ hl.1 rfl (nle rfl) dX10_bettersBoth_111 (fun hr_3 H locs w_M_3 => ?_)
        refine lv_iload hx hb dX10_bettersBoth_114 (lv_at hl 1 rfl) ?_
        refine g_icmp_ge (tgt := 156) X hr_3 hr dX10_bettersBoth_116 (by decide) (fun cd_4 => ?_) (fun cd_4 => ?_)
        · replace hf := ite_t cd_4 hf
          refine g_iconst X dX10_bettersBoth_156 ?_
          exact b_X10_bettersBoth_j157 X  HR v3 hv3 v4 hv4 v5 hv5 0 (inL rfl) M_3 hf (lv_sub hl [5, 4, 3, 2] rfl) w_M_3
        · replace hf := ite_f cd_4 hf
          refine lv_aload_n hx hb dX10_bettersBoth_119 rfl (lv_at hl 5 rfl) ?_
          refine g_getr X w_M_3 fg_X10_10 KD_0 FR_0_0 dX10_bettersBoth_120 ?_
          refine lv_iload_n hx hb dX10_bettersBoth_123 rfl (lv_at hl 7 rfl) ?_
          refine lv_aload_n hx hb dX10_bettersBoth_124 rfl (lv_at hl 5 rfl) ?_
          refine g_getr X w_M_3 fg_X10_88 KD_0 FR_0_10 dX10_bettersBoth_125 ?_
          refine lv_iload_n hx hb dX10_bettersBoth_128 rfl (lv_at hl 4 rfl) ?_
          obtain ⟨hg_10, hf⟩ := gd_some hf
          refine g_iald X w_M_3 KD_2 hv3 hg_10 dX10_bettersBoth_129 ?_
          obtain ⟨r_4, hc, hf⟩ := obn_some hf
          refine g_cvi (As := [.int (i2 p2), .int (i2 (M_3 2 v3.toNat))]) (rest := []) X w_M_3 (k_X1_bestWish X.2.2.1 p2 hp2 (M_3 2 v3.toNat) (w_M_3.2.2 _ _) w_M_3.2.2 hc) lk_X10_262 cl_1 KD_3 ⟨rfl, rfl⟩ ⟨nle rfl, nle rfl⟩ ⟨nle rfl, nle rfl⟩ hl.1 rfl (nle rfl) dX10_bettersBoth_130 (fun hr_4 H locs w_M_3 => ?_)
          refine lv_iload hx hb dX10_bettersBoth_133 (lv_at hl 0 rfl) ?_
          refine g_icmp_ge (tgt := 156) X hr_4 hr_2 dX10_bettersBoth_135 (by decide) (fun cd_5 => ?_) (fun cd_5 => ?_)
          · replace hf := ite_t cd_5 hf
            refine g_iconst X dX10_bettersBoth_156 ?_
            exact b_X10_bettersBoth_j157 X  HR v3 hv3 v4 hv4 v5 hv5 0 (inL rfl) M_3 hf (lv_sub hl [5, 4, 3, 2] rfl) w_M_3
          · replace hf := ite_f cd_5 hf
            refine lv_aload_n hx hb dX10_bettersBoth_138 rfl (lv_at hl 5 rfl) ?_
            refine g_getr X w_M_3 fg_X10_44 KD_0 FR_0_4 dX10_bettersBoth_139 ?_
            refine lv_aload_n hx hb dX10_bettersBoth_142 rfl (lv_at hl 5 rfl) ?_
            refine g_getr X w_M_3 fg_X10_88 KD_0 FR_0_10 dX10_bettersBoth_143 ?_
            obtain ⟨r_5, hc, hf⟩ := obn_some hf
            refine g_cvi (As := [.ref (ad 2)]) (rest := []) X w_M_3 (k_X4_allows X.2.2.1 2 KA_2 w_M_3.2.2 hc) lk_X10_231 cl_4 KD_30 ⟨rfl, rfl⟩ ⟨nle rfl, nle rfl⟩ ⟨nle rfl, nle rfl⟩ hl.1 rfl (nle rfl) dX10_bettersBoth_146 (fun hr_5 H locs w_M_3 => ?_)
            refine g_if_eq (tgt := 156) X hr_5 dX10_bettersBoth_149 (by decide) (fun cd_6 => ?_) (fun cd_6 => ?_)
            · replace hf := ite_t cd_6 hf
              refine g_iconst X dX10_bettersBoth_156 ?_
              exact b_X10_bettersBoth_j157 X  HR v3 hv3 v4 hv4 v5 hv5 0 (inL rfl) M_3 hf (lv_sub hl [5, 4, 3, 2] rfl) w_M_3
            · replace hf := ite_f cd_6 hf
              refine g_iconst X dX10_bettersBoth_152 ?_
              refine lv_goto (tgt := 157) hx hb dX10_bettersBoth_153 (by decide) ?_
              exact b_X10_bettersBoth_j157 X  HR v3 hv3 v4 hv4 v5 hv5 1 (inL rfl) M_3 hf (lv_sub hl [5, 4, 3, 2] rfl) w_M_3
      · replace hf := ite_t cd_3 hf
        refine g_iconst X dX10_bettersBoth_32 ?_
        exact HR 0 M _ _ _ _ (Option.some.inj hf).symm (Or.inl rfl) w dX10_bettersBoth_33
set_option maxRecDepth 100000 in
set_option maxHeartbeats 4000000 in
theorem k_X10_bettersBoth {l : Launch} {D : va_G} {aC : Nat → ClassId} {ad : Nat → Nat} {sg : SG} (hi : Inj ad) (p1 : Int) (hp1 : inR p1) (p2 : Int) (hp2 : inR p2) {M : Mem} (hM : inM M) {r : Int} {M' : Mem} (hf : f_X10_bettersBoth p1 p2 M = some (r, M')) : MetI l D aC ad sg yX10_bettersBoth cX10_bettersBoth 9 (some .boolean) rm_X10_bettersBoth 0 0 [.ref (ad 0), .int (i2 p1), .int (i2 p2)] M r M' := by
  refine MetI.ofZ (by decide +kernel) (nle rfl) hi hM (fun p e s m args below meth c Q H0 ls X hl w hret => ?_)
  exact b_X10_bettersBoth_0 X  (fun r1 M1 H locs pc ls eo hP w dg => by cases eo; exact hret H locs pc ls hP w dg) p1 hp1 p2 hp2 M hf hl w
set_option maxRecDepth 100000 in
set_option maxHeartbeats 4000000 in
theorem b_X10_searchSwaps_s39 (X : CX p s m args c cX10_searchSwaps 5 RX10 D aC ad sg A H0) (v1 : Int) (hv1 : inR v1) (v3 : Int) (hv3 : inR v3) {o : (Int × Int × Mem) ⊕ ((Int × Int × Mem) ⊕ (Int × Mem))} (HC : ∀ (y2 : Int) (y4 : Int) (M1 : Mem) (H : Heap) (locs : List Loc) (ls : Array Slot), o = .inl (y2, y4, M1) → inR y2 → inR y4 → lv_has ls 5 [(0, .ref (ad 0)), (1, .int (i2 v1)), (2, .int (i2 y2)), (3, .int (i2 v3)), (4, .int (i2 y4))] → WS D aC ad A H0 M1 H locs → W p l e rm_X10_searchSwaps s m args below meth c H locs 0 0 Q (F0 m 39 ls [])) (HE : ∀ (y2 : Int) (y4 : Int) (M1 : Mem) (H : Heap) (locs : List Loc) (ls : Array Slot), o = .inr (.inl (y2, y4, M1)) → inR y2 → inR y4 → lv_has ls 5 [(0, .ref (ad 0)), (1, .int (i2 v1)), (2, .int (i2 y2)), (3, .int (i2 v3)), (4, .int (i2 y4))] → WS D aC ad A H0 M1 H locs → W p l e rm_X10_searchSwaps s m args below meth c H locs 0 0 Q (F0 m 83 ls [])) (HR : ∀ (r : Int) (M1 : Mem) (H : Heap) (locs : List Loc) (pc : Nat) (ls : Array Slot), o = .inr (.inr (r, M1)) → inR r → WS D aC ad A H0 M1 H locs → decode cX10_searchSwaps pc = .ok (.ireturn, 1) → W p l e rm_X10_searchSwaps s m args below meth c H locs 0 0 Q (F0 m pc ls [.int (i2 r)])) (v2 : Int) (hv2 : inR v2) (v4 : Int) (hv4 : inR v4) (M : Mem) (hf : f_X10_searchSwaps_s39 v1 v3 v2 v4 M = some o) {H : Heap} {locs : List Loc} {ls : Array Slot} (hl : lv_has ls 5 [(0, .ref (ad 0)), (1, .int (i2 v1)), (2, .int (i2 v2)), (3, .int (i2 v3)), (4, .int (i2 v4))]) (w : WS D aC ad A H0 M H locs) : W p l e rm_X10_searchSwaps s m args below meth c H locs 0 0 Q (F0 m 39 ls []) := by
  have hx := X.1.1
  have hb := X.1.2.1
  unfold f_X10_searchSwaps_s39 at hf
  refine lv_iload hx hb dX10_searchSwaps_39 (lv_at hl 4 rfl) ?_
  refine lv_aload_n hx hb dX10_searchSwaps_41 rfl (lv_at hl 0 rfl) ?_
  refine g_getr X w fg_X10_10 KD_0 FR_0_0 dX10_searchSwaps_42 ?_
  refine g_geti X w fg_X10_194 KD_3 FR_3_0 dX10_searchSwaps_45 ?_
  refine g_icmp_ge (tgt := 83) X hv4 (w.2.2 _ _) dX10_searchSwaps_48 (by decide) (fun cd => ?_) (fun cd => ?_)
  · replace hf := ite_t cd hf
    exact HE v2 v4 M _ _ _ (Option.some.inj hf).symm hv2 hv4 hl w
  · replace hf := ite_f cd hf
    refine lv_aload_n hx hb dX10_searchSwaps_51 rfl (lv_at hl 0 rfl) ?_
    refine lv_iload_n hx hb dX10_searchSwaps_52 rfl (lv_at hl 3 rfl) ?_
    refine lv_iload hx hb dX10_searchSwaps_53 (lv_at hl 4 rfl) ?_
    obtain ⟨r, M_2, hc, hf⟩ := bnd_some hf
    refine g_cvi (As := [.int (i2 v3), .int (i2 v4)]) (rest := []) X w (k_X10_bettersBoth X.2.2.1 v3 hv3 v4 hv4 w.2.2 hc) lk_X10_386 cl_10 KD_0 ⟨rfl, rfl⟩ ⟨nle rfl, nle rfl⟩ ⟨nle rfl, nle rfl⟩ hl.1 rfl (nle rfl) dX10_searchSwaps_55 (fun hr H locs w_M_2 => ?_)
    refine g_if_eq (tgt := 77) X hr dX10_searchSwaps_58 (by decide) (fun cd_2 => ?_) (fun cd_2 => ?_)
    · replace hf := ite_t cd_2 hf
      obtain ⟨v4_2, ev4_2, hf⟩ := lt_some hf
      have hv4_2 : inR v4_2 := inR_of ev4_2 (inR_wrap _)
      refine lv_iinc (v := i2 v4_2) (lv' := [(4, .int (i2 v4_2)), (0, .ref (ad 0)), (1, .int (i2 v1)), (2, .int (i2 v2)), (3, .int (i2 v3))]) hx hb dX10_searchSwaps_77 hl (k := 4) rfl (by rw [ev4_2]; exact i2_add _ _) (by decide) rfl (fun ls hl => ?_)
      refine lv_goto (tgt := 39) hx hb dX10_searchSwaps_80 (by decide) ?_
      exact HC v2 v4_2 M_2 _ _ _ (Option.some.inj hf).symm hv2 hv4_2 (lv_sub hl [1, 2, 3, 4, 0] rfl) w_M_2
    · replace hf := ite_f cd_2 hf
      refine lv_iload_n hx hb dX10_searchSwaps_61 rfl (lv_at hl 2 rfl) ?_
      refine lv_iload_n hx hb dX10_searchSwaps_62 rfl (lv_at hl 1 rfl) ?_
      refine g_icmp_ne (tgt := 74) X hv2 hv1 dX10_searchSwaps_63 (by decide) (fun cd_3 => ?_) (fun cd_3 => ?_)
      · replace hf := ite_f cd_3 hf
        obtain ⟨v2_2, ev2_2, hf⟩ := lt_some hf
        have hv2_2 : inR v2_2 := inR_of ev2_2 (inR_wrap _)
        refine lv_iinc (v := i2 v2_2) (lv' := [(2, .int (i2 v2_2)), (0, .ref (ad 0)), (1, .int (i2 v1)), (3, .int (i2 v3)), (4, .int (i2 v4))]) hx hb dX10_searchSwaps_74 hl (k := 2) rfl (by rw [ev2_2]; exact i2_add _ _) (by decide) rfl (fun ls hl => ?_)
        obtain ⟨v4_3, ev4_3, hf⟩ := lt_some hf
        have hv4_3 : inR v4_3 := inR_of ev4_3 (inR_wrap _)
        refine lv_iinc (v := i2 v4_3) (lv' := [(4, .int (i2 v4_3)), (2, .int (i2 v2_2)), (0, .ref (ad 0)), (1, .int (i2 v1)), (3, .int (i2 v3))]) hx hb dX10_searchSwaps_77 hl (k := 4) rfl (by rw [ev4_3]; exact i2_add _ _) (by decide) rfl (fun ls hl => ?_)
        refine lv_goto (tgt := 39) hx hb dX10_searchSwaps_80 (by decide) ?_
        exact HC v2_2 v4_3 M_2 _ _ _ (Option.some.inj hf).symm hv2_2 hv4_3 (lv_sub hl [2, 3, 1, 4, 0] rfl) w_M_2
      · replace hf := ite_t cd_3 hf
        refine lv_iload_n hx hb dX10_searchSwaps_66 rfl (lv_at hl 3 rfl) ?_
        refine g_bipush X dX10_searchSwaps_67 (by decide) ?_
        refine g_imul X dX10_searchSwaps_69 ?_
        refine lv_iload hx hb dX10_searchSwaps_70 (lv_at hl 4 rfl) ?_
        refine g_iadd X dX10_searchSwaps_72 ?_
        exact HR (wrap ((wrap (v3 * 14)) + v4)) M_2 _ _ _ _ (Option.some.inj hf).symm (inR_wrap _) w_M_2 dX10_searchSwaps_73
set_option maxRecDepth 100000 in
set_option maxHeartbeats 4000000 in
theorem l_X10_searchSwaps_39 (X : CX p s m args c cX10_searchSwaps 5 RX10 D aC ad sg A H0) (v1 : Int) (hv1 : inR v1) (v3 : Int) (hv3 : inR v3) {out : (Int × Int × Mem) ⊕ (Int × Mem)} (HE : ∀ (y2 : Int) (y4 : Int) (M1 : Mem) (H : Heap) (locs : List Loc) (ls : Array Slot), out = .inl (y2, y4, M1) → inR y2 → inR y4 → lv_has ls 5 [(0, .ref (ad 0)), (1, .int (i2 v1)), (2, .int (i2 y2)), (3, .int (i2 v3)), (4, .int (i2 y4))] → WS D aC ad A H0 M1 H locs → W p l e rm_X10_searchSwaps s m args below meth c H locs 0 0 Q (F0 m 83 ls [])) (HR : ∀ (r : Int) (M1 : Mem) (H : Heap) (locs : List Loc) (pc : Nat) (ls : Array Slot), out = .inr (r, M1) → inR r → WS D aC ad A H0 M1 H locs → decode cX10_searchSwaps pc = .ok (.ireturn, 1) → W p l e rm_X10_searchSwaps s m args below meth c H locs 0 0 Q (F0 m pc ls [.int (i2 r)])) : ∀ (n : Nat) (v2 : Int) (v4 : Int) (M : Mem), whl (fun s => f_X10_searchSwaps_s39 v1 v3 s.1 s.2.1 s.2.2) n (v2, v4, M) = some out → inR v2 → inR v4 → ∀ {H : Heap} {locs : List Loc} {ls : Array Slot}, lv_has ls 5 [(0, .ref (ad 0)), (1, .int (i2 v1)), (2, .int (i2 v2)), (3, .int (i2 v3)), (4, .int (i2 v4))] → WS D aC ad A H0 M H locs → W p l e rm_X10_searchSwaps s m args below meth c H locs 0 0 Q (F0 m 39 ls []) := by
  intro n
  induction n with
  | zero => intro v2 v4 M hf; exact (whl_zero hf).elim
  | succ n ih =>
    intro v2 v4 M hf hv2 hv4 H locs ls hl w
    obtain ⟨o, hf, hk1, hk2⟩ := whl_step hf
    exact b_X10_searchSwaps_s39 X v1 hv1 v3 hv3 (fun y2 y4 M1 H locs ls eo hy2 hy4 hl w => ih y2 y4 M1 (hk1 _ eo) hy2 hy4 hl w) (fun y2 y4 M1 H locs ls eo hy2 hy4 hl w => HE y2 y4 M1 H locs ls (hk2 _ eo).symm hy2 hy4 hl w) (fun r M1 H locs pc ls eo hP w dg => HR r M1 H locs pc ls (hk2 _ eo).symm hP w dg) v2 hv2 v4 hv4 M hf hl w
set_option maxRecDepth 100000 in
set_option maxHeartbeats 4000000 in
theorem b_X10_searchSwaps_j83k23 (X : CX p s m args c cX10_searchSwaps 5 RX10 D aC ad sg A H0) (v1 : Int) (hv1 : inR v1) {o : (Int × Int × Mem) ⊕ ((Int × Int × Mem) ⊕ (Int × Mem))} (HC : ∀ (y2 : Int) (y3 : Int) (M1 : Mem) (H : Heap) (locs : List Loc) (ls : Array Slot), o = .inl (y2, y3, M1) → inR y2 → inR y3 → lv_has ls 5 [(0, .ref (ad 0)), (1, .int (i2 v1)), (2, .int (i2 y2)), (3, .int (i2 y3))] → WS D aC ad A H0 M1 H locs → W p l e rm_X10_searchSwaps s m args below meth c H locs 0 0 Q (F0 m 23 ls [])) (HE : ∀ (y2 : Int) (y3 : Int) (M1 : Mem) (H : Heap) (locs : List Loc) (ls : Array Slot), o = .inr (.inl (y2, y3, M1)) → inR y2 → inR y3 → lv_has ls 5 [(0, .ref (ad 0)), (1, .int (i2 v1)), (2, .int (i2 y2)), (3, .int (i2 y3))] → WS D aC ad A H0 M1 H locs → W p l e rm_X10_searchSwaps s m args below meth c H locs 0 0 Q (F0 m 89 ls [])) (HR : ∀ (r : Int) (M1 : Mem) (H : Heap) (locs : List Loc) (pc : Nat) (ls : Array Slot), o = .inr (.inr (r, M1)) → inR r → WS D aC ad A H0 M1 H locs → decode cX10_searchSwaps pc = .ok (.ireturn, 1) → W p l e rm_X10_searchSwaps s m args below meth c H locs 0 0 Q (F0 m pc ls [.int (i2 r)])) (v2 : Int) (hv2 : inR v2) (v3 : Int) (hv3 : inR v3) (M : Mem) (hf : f_X10_searchSwaps_j83k23 v1 v2 v3 M = some o) {H : Heap} {locs : List Loc} {ls : Array Slot} (hl : lv_has ls 5 [(0, .ref (ad 0)), (1, .int (i2 v1)), (2, .int (i2 v2)), (3, .int (i2 v3))]) (w : WS D aC ad A H0 M H locs) : W p l e rm_X10_searchSwaps s m args below meth c H locs 0 0 Q (F0 m 83 ls []) := by
  have hx := X.1.1
  have hb := X.1.2.1
  unfold f_X10_searchSwaps_j83k23 at hf
  obtain ⟨v3_2, ev3_2, hf⟩ := lt_some hf
  have hv3_2 : inR v3_2 := inR_of ev3_2 (inR_wrap _)
  refine lv_iinc (v := i2 v3_2) (lv' := [(3, .int (i2 v3_2)), (0, .ref (ad 0)), (1, .int (i2 v1)), (2, .int (i2 v2))]) hx hb dX10_searchSwaps_83 hl (k := 3) rfl (by rw [ev3_2]; exact i2_add _ _) (by decide) rfl (fun ls hl => ?_)
  refine lv_goto (tgt := 23) hx hb dX10_searchSwaps_86 (by decide) ?_
  exact HC v2 v3_2 M _ _ _ (Option.some.inj hf).symm hv2 hv3_2 (lv_sub hl [1, 2, 3, 0] rfl) w
set_option maxRecDepth 100000 in
set_option maxHeartbeats 4000000 in
theorem b_X10_searchSwaps_s23 (X : CX p s m args c cX10_searchSwaps 5 RX10 D aC ad sg A H0) (v1 : Int) (hv1 : inR v1) {o : (Int × Int × Mem) ⊕ ((Int × Int × Mem) ⊕ (Int × Mem))} (HC : ∀ (y2 : Int) (y3 : Int) (M1 : Mem) (H : Heap) (locs : List Loc) (ls : Array Slot), o = .inl (y2, y3, M1) → inR y2 → inR y3 → lv_has ls 5 [(0, .ref (ad 0)), (1, .int (i2 v1)), (2, .int (i2 y2)), (3, .int (i2 y3))] → WS D aC ad A H0 M1 H locs → W p l e rm_X10_searchSwaps s m args below meth c H locs 0 0 Q (F0 m 23 ls [])) (HE : ∀ (y2 : Int) (y3 : Int) (M1 : Mem) (H : Heap) (locs : List Loc) (ls : Array Slot), o = .inr (.inl (y2, y3, M1)) → inR y2 → inR y3 → lv_has ls 5 [(0, .ref (ad 0)), (1, .int (i2 v1)), (2, .int (i2 y2)), (3, .int (i2 y3))] → WS D aC ad A H0 M1 H locs → W p l e rm_X10_searchSwaps s m args below meth c H locs 0 0 Q (F0 m 89 ls [])) (HR : ∀ (r : Int) (M1 : Mem) (H : Heap) (locs : List Loc) (pc : Nat) (ls : Array Slot), o = .inr (.inr (r, M1)) → inR r → WS D aC ad A H0 M1 H locs → decode cX10_searchSwaps pc = .ok (.ireturn, 1) → W p l e rm_X10_searchSwaps s m args below meth c H locs 0 0 Q (F0 m pc ls [.int (i2 r)])) (v2 : Int) (hv2 : inR v2) (v3 : Int) (hv3 : inR v3) (M : Mem) (hf : f_X10_searchSwaps_s23 v1 v2 v3 M = some o) {H : Heap} {locs : List Loc} {ls : Array Slot} (hl : lv_has ls 5 [(0, .ref (ad 0)), (1, .int (i2 v1)), (2, .int (i2 v2)), (3, .int (i2 v3))]) (w : WS D aC ad A H0 M H locs) : W p l e rm_X10_searchSwaps s m args below meth c H locs 0 0 Q (F0 m 23 ls []) := by
  have hx := X.1.1
  have hb := X.1.2.1
  unfold f_X10_searchSwaps_s23 at hf
  refine lv_iload_n hx hb dX10_searchSwaps_23 rfl (lv_at hl 3 rfl) ?_
  refine lv_aload_n hx hb dX10_searchSwaps_24 rfl (lv_at hl 0 rfl) ?_
  refine g_getr X w fg_X10_10 KD_0 FR_0_0 dX10_searchSwaps_25 ?_
  refine g_geti X w fg_X10_194 KD_3 FR_3_0 dX10_searchSwaps_28 ?_
  refine g_icmp_ge (tgt := 89) X hv3 (w.2.2 _ _) dX10_searchSwaps_31 (by decide) (fun cd => ?_) (fun cd => ?_)
  · replace hf := ite_t cd hf
    exact HE v2 v3 M _ _ _ (Option.some.inj hf).symm hv2 hv3 hl w
  · replace hf := ite_f cd hf
    refine lv_iload_n hx hb dX10_searchSwaps_34 rfl (lv_at hl 3 rfl) ?_
    refine g_iconst X dX10_searchSwaps_35 ?_
    refine g_iadd X dX10_searchSwaps_36 ?_
    obtain ⟨v4, ev4, hf⟩ := lt_some hf
    have hv4 : inR v4 := inR_of ev4 (inR_wrap _)
    refine g_ist (v := v4) (lv' := [(4, .int (i2 v4)), (0, .ref (ad 0)), (1, .int (i2 v1)), (2, .int (i2 v2)), (3, .int (i2 v3))]) X ev4 dX10_searchSwaps_37 hl (by decide) rfl (fun ls hl => ?_)
    obtain ⟨q, hq, h1, h2⟩ := lpr_some hf
    exact l_X10_searchSwaps_39 X v1 hv1 v3 hv3 (out := q) (fun y2 y4 M1 H locs ls eq hy2 hy4 hl w => b_X10_searchSwaps_j83k23 X v1 hv1 HC HE HR y2 hy2 v3 hv3 M1 (h1 _ eq) (lv_sub hl [0, 1, 2, 3] rfl) w) (fun r M1 H locs pc ls eq hP w dg => HR r M1 H locs pc ls (Option.some.inj (h2 _ eq)).symm hP w dg) FU v2 v4 M hq hv2 hv4 (lv_sub hl [1, 2, 3, 4, 0] rfl) w
set_option maxRecDepth 100000 in
set_option maxHeartbeats 4000000 in
theorem l_X10_searchSwaps_23 (X : CX p s m args c cX10_searchSwaps 5 RX10 D aC ad sg A H0) (v1 : Int) (hv1 : inR v1) {out : (Int × Int × Mem) ⊕ (Int × Mem)} (HE : ∀ (y2 : Int) (y3 : Int) (M1 : Mem) (H : Heap) (locs : List Loc) (ls : Array Slot), out = .inl (y2, y3, M1) → inR y2 → inR y3 → lv_has ls 5 [(0, .ref (ad 0)), (1, .int (i2 v1)), (2, .int (i2 y2)), (3, .int (i2 y3))] → WS D aC ad A H0 M1 H locs → W p l e rm_X10_searchSwaps s m args below meth c H locs 0 0 Q (F0 m 89 ls [])) (HR : ∀ (r : Int) (M1 : Mem) (H : Heap) (locs : List Loc) (pc : Nat) (ls : Array Slot), out = .inr (r, M1) → inR r → WS D aC ad A H0 M1 H locs → decode cX10_searchSwaps pc = .ok (.ireturn, 1) → W p l e rm_X10_searchSwaps s m args below meth c H locs 0 0 Q (F0 m pc ls [.int (i2 r)])) : ∀ (n : Nat) (v2 : Int) (v3 : Int) (M : Mem), whl (fun s => f_X10_searchSwaps_s23 v1 s.1 s.2.1 s.2.2) n (v2, v3, M) = some out → inR v2 → inR v3 → ∀ {H : Heap} {locs : List Loc} {ls : Array Slot}, lv_has ls 5 [(0, .ref (ad 0)), (1, .int (i2 v1)), (2, .int (i2 v2)), (3, .int (i2 v3))] → WS D aC ad A H0 M H locs → W p l e rm_X10_searchSwaps s m args below meth c H locs 0 0 Q (F0 m 23 ls []) := by
  intro n
  induction n with
  | zero => intro v2 v3 M hf; exact (whl_zero hf).elim
  | succ n ih =>
    intro v2 v3 M hf hv2 hv3 H locs ls hl w
    obtain ⟨o, hf, hk1, hk2⟩ := whl_step hf
    exact b_X10_searchSwaps_s23 X v1 hv1 (fun y2 y3 M1 H locs ls eo hy2 hy3 hl w => ih y2 y3 M1 (hk1 _ eo) hy2 hy3 hl w) (fun y2 y3 M1 H locs ls eo hy2 hy3 hl w => HE y2 y3 M1 H locs ls (hk2 _ eo).symm hy2 hy3 hl w) (fun r M1 H locs pc ls eo hP w dg => HR r M1 H locs pc ls (hk2 _ eo).symm hP w dg) v2 hv2 v3 hv3 M hf hl w
set_option maxRecDepth 100000 in
set_option maxHeartbeats 4000000 in
theorem b_X10_searchSwaps_j89 (X : CX p s m args c cX10_searchSwaps 5 RX10 D aC ad sg A H0) {o : Int × Mem} (HR : ∀ (r : Int) (M1 : Mem) (H : Heap) (locs : List Loc) (pc : Nat) (ls : Array Slot), o = (r, M1) → inR r → WS D aC ad A H0 M1 H locs → decode cX10_searchSwaps pc = .ok (.ireturn, 1) → W p l e rm_X10_searchSwaps s m args below meth c H locs 0 0 Q (F0 m pc ls [.int (i2 r)])) (v1 : Int) (hv1 : inR v1) (v2 : Int) (hv2 : inR v2) (M : Mem) (hf : f_X10_searchSwaps_j89 v1 v2 M = some o) {H : Heap} {locs : List Loc} {ls : Array Slot} (hl : lv_has ls 5 [(1, .int (i2 v1)), (2, .int (i2 v2))]) (w : WS D aC ad A H0 M H locs) : W p l e rm_X10_searchSwaps s m args below meth c H locs 0 0 Q (F0 m 89 ls []) := by
  have hx := X.1.1
  have hb := X.1.2.1
  unfold f_X10_searchSwaps_j89 at hf
  refine lv_iload_n hx hb dX10_searchSwaps_89 rfl (lv_at hl 0 rfl) ?_
  refine g_if_ge (tgt := 97) X hv1 dX10_searchSwaps_90 (by decide) (fun cd => ?_) (fun cd => ?_)
  · replace hf := ite_t cd hf
    refine g_iconst X dX10_searchSwaps_97 ?_
    exact HR (-1) M _ _ _ _ (Option.some.inj hf).symm (inL rfl) w dX10_searchSwaps_98
  · replace hf := ite_f cd hf
    refine lv_iload_n hx hb dX10_searchSwaps_93 rfl (lv_at hl 1 rfl) ?_
    refine lv_goto (tgt := 98) hx hb dX10_searchSwaps_94 (by decide) ?_
    exact HR v2 M _ _ _ _ (Option.some.inj hf).symm hv2 w dX10_searchSwaps_98
set_option maxRecDepth 100000 in
set_option maxHeartbeats 4000000 in
theorem b_X10_searchSwaps_0 (X : CX p s m args c cX10_searchSwaps 5 RX10 D aC ad sg A H0) {o : Int × Mem} (HR : ∀ (r : Int) (M1 : Mem) (H : Heap) (locs : List Loc) (pc : Nat) (ls : Array Slot), o = (r, M1) → inR r → WS D aC ad A H0 M1 H locs → decode cX10_searchSwaps pc = .ok (.ireturn, 1) → W p l e rm_X10_searchSwaps s m args below meth c H locs 0 0 Q (F0 m pc ls [.int (i2 r)])) (p1 : Int) (hp1 : inR p1) (M : Mem) (hf : f_X10_searchSwaps p1 M = some o) {H : Heap} {locs : List Loc} {ls : Array Slot} (hl : lv_has ls 5 [(0, .ref (ad 0)), (1, .int (i2 p1))]) (w : WS D aC ad A H0 M H locs) : W p l e rm_X10_searchSwaps s m args below meth c H locs 0 0 Q (F0 m 0 ls []) := by
  have hx := X.1.1
  have hb := X.1.2.1
  unfold f_X10_searchSwaps at hf
  refine lv_aload_n hx hb dX10_searchSwaps_0 rfl (lv_at hl 0 rfl) ?_
  refine g_getr X w fg_X10_44 KD_0 FR_0_4 dX10_searchSwaps_1 ?_
  refine lv_aload_n hx hb dX10_searchSwaps_4 rfl (lv_at hl 0 rfl) ?_
  obtain ⟨hru, hf⟩ := gd_some hf
  refine g_getd X w fg_X10_94 KD_0 FR_0_11 hru dX10_searchSwaps_5 ?_
  refine lv_aload_n hx hb dX10_searchSwaps_8 rfl (lv_at hl 0 rfl) ?_
  refine g_geti X w fg_X10_113 KD_0 FR_0_13 dX10_searchSwaps_9 ?_
  obtain ⟨M_2, hc, hf⟩ := obn_some hf
  refine g_cvv (As := [.ref (ad ((M 0 11).toNat)), .int (i2 (M 0 13))]) (rest := []) X w (k_X4_prepare X.2.2.1 (M 0 11) hru (M 0 13) (w.2.2 _ _) w.2.2 hc) lk_X10_186 cl_4 KD_30 ⟨rfl, rfl⟩ ⟨nle rfl, nle rfl⟩ ⟨nle rfl, nle rfl⟩ hl.1 rfl (nle rfl) dX10_searchSwaps_12 (fun H locs w_M_2 => ?_)
  refine lv_aload_n hx hb dX10_searchSwaps_15 rfl (lv_at hl 0 rfl) ?_
  obtain ⟨M_3, hc, hf⟩ := obn_some hf
  refine g_cvv (As := []) (rest := []) X w_M_2 (k_X10_gatherList X.2.2.1  w_M_2.2.2 hc) lk_X10_228 cl_10 KD_0 ⟨rfl, rfl⟩ ⟨nle rfl, nle rfl⟩ ⟨nle rfl, nle rfl⟩ hl.1 rfl (nle rfl) dX10_searchSwaps_16 (fun H locs w_M_3 => ?_)
  refine g_iconst X dX10_searchSwaps_19 ?_
  refine g_istn (v := 0) (lv' := [(2, .int (i2 0)), (0, .ref (ad 0)), (1, .int (i2 p1))]) X rfl dX10_searchSwaps_20 rfl hl (by decide) rfl (fun ls hl => ?_)
  refine g_iconst X dX10_searchSwaps_21 ?_
  refine g_istn (v := 0) (lv' := [(3, .int (i2 0)), (2, .int (i2 0)), (0, .ref (ad 0)), (1, .int (i2 p1))]) X rfl dX10_searchSwaps_22 rfl hl (by decide) rfl (fun ls hl => ?_)
  obtain ⟨q, hq, h1, h2⟩ := lpr_some hf
  exact l_X10_searchSwaps_23 X p1 hp1 (out := q) (fun y2 y3 M1 H locs ls eq hy2 hy3 hl w => b_X10_searchSwaps_j89 X  HR p1 hp1 y2 hy2 M1 (h1 _ eq) (lv_sub hl [1, 2] rfl) w) (fun r M1 H locs pc ls eq hP w dg => HR r M1 H locs pc ls (Option.some.inj (h2 _ eq)).symm hP w dg) FU 0 0 M_3 hq (inL rfl) (inL rfl) (lv_sub hl [2, 3, 1, 0] rfl) w_M_3
set_option maxRecDepth 100000 in
set_option maxHeartbeats 4000000 in
theorem k_X10_searchSwaps {l : Launch} {D : va_G} {aC : Nat → ClassId} {ad : Nat → Nat} {sg : SG} (hi : Inj ad) (p1 : Int) (hp1 : inR p1) {M : Mem} (hM : inM M) {r : Int} {M' : Mem} (hf : f_X10_searchSwaps p1 M = some (r, M')) : MetI l D aC ad sg yX10_searchSwaps cX10_searchSwaps 5 (some .int) rm_X10_searchSwaps 0 0 [.ref (ad 0), .int (i2 p1)] M r M' := by
  refine MetI.ofI (by decide +kernel) (nle rfl) hi hM (fun p e s m args below meth c Q H0 ls X hl w hret => ?_)
  exact b_X10_searchSwaps_0 X  (fun r1 M1 H locs pc ls eo hP w dg => by cases eo; exact hret H locs pc ls hP w dg) p1 hp1 M hf hl w
set_option maxRecDepth 100000 in
set_option maxHeartbeats 4000000 in
theorem b_X10_swaps_0 (X : CX p s m args c cX10_swaps 1 RX10 D aC ad sg A H0) {o : Int × Mem} (HR : ∀ (r : Int) (M1 : Mem) (H : Heap) (locs : List Loc) (pc : Nat) (ls : Array Slot), o = (r, M1) → inR r → WS D aC ad A H0 M1 H locs → decode cX10_swaps pc = .ok (.ireturn, 1) → W p l e rm_X10_swaps s m args below meth c H locs 0 0 Q (F0 m pc ls [.int (i2 r)])) (M : Mem) (hf : f_X10_swaps M = some o) {H : Heap} {locs : List Loc} {ls : Array Slot} (hl : lv_has ls 1 [(0, .ref (ad 0))]) (w : WS D aC ad A H0 M H locs) : W p l e rm_X10_swaps s m args below meth c H locs 0 0 Q (F0 m 0 ls []) := by
  have hx := X.1.1
  have hb := X.1.2.1
  unfold f_X10_swaps at hf
  refine lv_aload_n hx hb dX10_swaps_0 rfl (lv_at hl 0 rfl) ?_
  refine g_iconst X dX10_swaps_1 ?_
  obtain ⟨r, M_2, hc, hf⟩ := bnd_some hf
  refine g_cvi (As := [.int (i2 (-1))]) (rest := []) X w (k_X10_searchSwaps X.2.2.1 (-1) (inL rfl) w.2.2 hc) lk_X10_272 cl_10 KD_0 ⟨rfl, rfl⟩ ⟨nle rfl, nle rfl⟩ ⟨nle rfl, nle rfl⟩ hl.1 rfl (nle rfl) dX10_swaps_2 (fun hr H locs w_M_2 => ?_)
  exact HR r M_2 _ _ _ _ (Option.some.inj hf).symm hr w_M_2 dX10_swaps_5
set_option maxRecDepth 100000 in
set_option maxHeartbeats 4000000 in
theorem k_X10_swaps {l : Launch} {D : va_G} {aC : Nat → ClassId} {ad : Nat → Nat} {sg : SG} (hi : Inj ad)  {M : Mem} (hM : inM M) {r : Int} {M' : Mem} (hf : f_X10_swaps M = some (r, M')) : MetI l D aC ad sg yX10_swaps cX10_swaps 1 (some .int) rm_X10_swaps 0 0 [.ref (ad 0)] M r M' := by
  refine MetI.ofI (by decide +kernel) (nle rfl) hi hM (fun p e s m args below meth c Q H0 ls X hl w hret => ?_)
  exact b_X10_swaps_0 X  (fun r1 M1 H locs pc ls eo hP w dg => by cases eo; exact hret H locs pc ls hP w dg) M hf hl w
set_option maxRecDepth 100000 in
set_option maxHeartbeats 4000000 in
theorem b_X10_swap_0 (X : CX p s m args c cX10_swap 4 RX10 D aC ad sg A H0) {o : Int × Mem} (HR : ∀ (r : Int) (M1 : Mem) (H : Heap) (locs : List Loc) (pc : Nat) (ls : Array Slot), o = (r, M1) → inR r → WS D aC ad A H0 M1 H locs → decode cX10_swap pc = .ok (.ireturn, 1) → W p l e rm_X10_swap s m args below meth c H locs 0 0 Q (F0 m pc ls [.int (i2 r)])) (p1 : Int) (hp1 : inR p1) (p2 : Int) (hp2 : inR p2) (M : Mem) (hf : f_X10_swap p1 p2 M = some o) {H : Heap} {locs : List Loc} {ls : Array Slot} (hl : lv_has ls 4 [(0, .ref (ad 0)), (1, .int (i2 p1)), (2, .int (i2 p2))]) (w : WS D aC ad A H0 M H locs) : W p l e rm_X10_swap s m args below meth c H locs 0 0 Q (F0 m 0 ls []) := by
  have hx := X.1.1
  have hb := X.1.2.1
  unfold f_X10_swap at hf
  refine lv_iload_n hx hb dX10_swap_0 rfl (lv_at hl 1 rfl) ?_
  refine g_if_lt (tgt := 13) X hp1 dX10_swap_1 (by decide) (fun cd => ?_) (fun cd => ?_)
  · replace hf := ite_t cd hf
    refine g_iconst X dX10_swap_13 ?_
    exact HR (-1) M _ _ _ _ (Option.some.inj hf).symm (inL rfl) w dX10_swap_14
  · replace hf := ite_f cd hf
    refine lv_iload_n hx hb dX10_swap_4 rfl (lv_at hl 2 rfl) ?_
    refine g_iconst X dX10_swap_5 ?_
    refine g_iconst X dX10_swap_6 ?_
    obtain ⟨r, hc, hf⟩ := obn_some hf
    refine g_csi (As := [.int (i2 p2), .int (i2 0), .int (i2 1)]) (rest := []) X w (k_X10_within X.2.2.1 p2 hp2 0 (inL rfl) 1 (inL rfl) w.2.2 hc) lk_X10_105 ⟨rfl, rfl⟩ ⟨nle rfl, nle rfl⟩ ⟨nle rfl, nle rfl⟩ hl.1 rfl (nle rfl) dX10_swap_7 (fun hr H locs w => ?_)
    refine g_if_ne (tgt := 15) X hr dX10_swap_10 (by decide) (fun cd_2 => ?_) (fun cd_2 => ?_)
    · replace hf := ite_f cd_2 hf
      refine lv_aload_n hx hb dX10_swap_15 rfl (lv_at hl 0 rfl) ?_
      refine lv_iload_n hx hb dX10_swap_16 rfl (lv_at hl 1 rfl) ?_
      obtain ⟨r_2, M_2, hc, hf⟩ := bnd_some hf
      refine g_cvi (As := [.int (i2 p1)]) (rest := []) X w (k_X10_searchSwaps X.2.2.1 p1 hp1 w.2.2 hc) lk_X10_272 cl_10 KD_0 ⟨rfl, rfl⟩ ⟨nle rfl, nle rfl⟩ ⟨nle rfl, nle rfl⟩ hl.1 rfl (nle rfl) dX10_swap_17 (fun hr_2 H locs w_M_2 => ?_)
      refine g_istn (v := r_2) (lv' := [(3, .int (i2 r_2)), (0, .ref (ad 0)), (1, .int (i2 p1)), (2, .int (i2 p2))]) X rfl dX10_swap_20 rfl hl (by decide) rfl (fun ls hl => ?_)
      refine lv_iload_n hx hb dX10_swap_21 rfl (lv_at hl 0 rfl) ?_
      refine g_iconst X dX10_swap_22 ?_
      refine g_icmp_ne (tgt := 28) X hr_2 (inL rfl) dX10_swap_23 (by decide) (fun cd_3 => ?_) (fun cd_3 => ?_)
      · replace hf := ite_f cd_3 hf
        refine lv_iload_n hx hb dX10_swap_28 rfl (lv_at hl 3 rfl) ?_
        refine g_if_ne (tgt := 39) X hp2 dX10_swap_29 (by decide) (fun cd_4 => ?_) (fun cd_4 => ?_)
        · replace hf := ite_f cd_4 hf
          refine lv_iload_n hx hb dX10_swap_39 rfl (lv_at hl 0 rfl) ?_
          refine g_bipush X dX10_swap_40 (by decide) ?_
          refine g_irem X (inL rfl) (by decide) dX10_swap_42 ?_
          exact HR (jrem r_2 14) M_2 _ _ _ _ (Option.some.inj hf).symm (inR_toInt _) w_M_2 dX10_swap_43
        · replace hf := ite_t cd_4 hf
          refine lv_iload_n hx hb dX10_swap_32 rfl (lv_at hl 0 rfl) ?_
          refine g_bipush X dX10_swap_33 (by decide) ?_
          refine g_idiv X (inL rfl) (by decide) dX10_swap_35 ?_
          refine lv_goto (tgt := 43) hx hb dX10_swap_36 (by decide) ?_
          exact HR (jdiv r_2 14) M_2 _ _ _ _ (Option.some.inj hf).symm (inR_toInt _) w_M_2 dX10_swap_43
      · replace hf := ite_t cd_3 hf
        refine g_iconst X dX10_swap_26 ?_
        exact HR (-1) M_2 _ _ _ _ (Option.some.inj hf).symm (inL rfl) w_M_2 dX10_swap_27
    · replace hf := ite_t cd_2 hf
      refine g_iconst X dX10_swap_13 ?_
      exact HR (-1) M _ _ _ _ (Option.some.inj hf).symm (inL rfl) w dX10_swap_14
set_option maxRecDepth 100000 in
set_option maxHeartbeats 4000000 in
theorem k_X10_swap {l : Launch} {D : va_G} {aC : Nat → ClassId} {ad : Nat → Nat} {sg : SG} (hi : Inj ad) (p1 : Int) (hp1 : inR p1) (p2 : Int) (hp2 : inR p2) {M : Mem} (hM : inM M) {r : Int} {M' : Mem} (hf : f_X10_swap p1 p2 M = some (r, M')) : MetI l D aC ad sg yX10_swap cX10_swap 4 (some .int) rm_X10_swap 0 0 [.ref (ad 0), .int (i2 p1), .int (i2 p2)] M r M' := by
  refine MetI.ofI (by decide +kernel) (nle rfl) hi hM (fun p e s m args below meth c Q H0 ls X hl w hret => ?_)
  exact b_X10_swap_0 X  (fun r1 M1 H locs pc ls eo hP w dg => by cases eo; exact hret H locs pc ls hP w dg) p1 hp1 p2 hp2 M hf hl w
set_option maxRecDepth 100000 in
set_option maxHeartbeats 4000000 in
theorem b_X10_lonely_s4 (X : CX p s m args c cX10_lonely 4 RX10 D aC ad sg A H0) (v1 : Int) (hv1 : inR v1) {M : Mem} {o : (Int × Int) ⊕ ((Int × Int) ⊕ (Int))} (HC : ∀ (y2 : Int) (y3 : Int) (H : Heap) (locs : List Loc) (ls : Array Slot), o = .inl (y2, y3) → inR y2 → inR y3 → lv_has ls 4 [(0, .ref (ad 0)), (1, .int (i2 v1)), (2, .int (i2 y2)), (3, .int (i2 y3))] → WS D aC ad A H0 M H locs → W p l e rm_X10_lonely s m args below meth c H locs 0 0 Q (F0 m 4 ls [])) (HE : ∀ (y2 : Int) (y3 : Int) (H : Heap) (locs : List Loc) (ls : Array Slot), o = .inr (.inl (y2, y3)) → inR y2 → inR y3 → lv_has ls 4 [(0, .ref (ad 0)), (1, .int (i2 v1)), (2, .int (i2 y2)), (3, .int (i2 y3))] → WS D aC ad A H0 M H locs → W p l e rm_X10_lonely s m args below meth c H locs 0 0 Q (F0 m 42 ls [])) (HR : ∀ (r : Int) (H : Heap) (locs : List Loc) (pc : Nat) (ls : Array Slot), o = .inr (.inr r) → inR r → WS D aC ad A H0 M H locs → decode cX10_lonely pc = .ok (.ireturn, 1) → W p l e rm_X10_lonely s m args below meth c H locs 0 0 Q (F0 m pc ls [.int (i2 r)])) (v2 : Int) (hv2 : inR v2) (v3 : Int) (hv3 : inR v3) (hf : f_X10_lonely_s4 v1 M v2 v3 = some o) {H : Heap} {locs : List Loc} {ls : Array Slot} (hl : lv_has ls 4 [(0, .ref (ad 0)), (1, .int (i2 v1)), (2, .int (i2 v2)), (3, .int (i2 v3))]) (w : WS D aC ad A H0 M H locs) : W p l e rm_X10_lonely s m args below meth c H locs 0 0 Q (F0 m 4 ls []) := by
  have hx := X.1.1
  have hb := X.1.2.1
  unfold f_X10_lonely_s4 at hf
  refine lv_iload_n hx hb dX10_lonely_4 rfl (lv_at hl 3 rfl) ?_
  refine lv_aload_n hx hb dX10_lonely_5 rfl (lv_at hl 0 rfl) ?_
  refine g_getr X w fg_X10_10 KD_0 FR_0_0 dX10_lonely_6 ?_
  refine g_geti X w fg_X10_194 KD_3 FR_3_0 dX10_lonely_9 ?_
  refine g_icmp_ge (tgt := 42) X hv3 (w.2.2 _ _) dX10_lonely_12 (by decide) (fun cd => ?_) (fun cd => ?_)
  · replace hf := ite_t cd hf
    exact HE v2 v3 _ _ _ (Option.some.inj hf).symm hv2 hv3 hl w
  · replace hf := ite_f cd hf
    refine lv_aload_n hx hb dX10_lonely_15 rfl (lv_at hl 0 rfl) ?_
    refine g_getr X w fg_X10_10 KD_0 FR_0_0 dX10_lonely_16 ?_
    refine lv_iload_n hx hb dX10_lonely_19 rfl (lv_at hl 3 rfl) ?_
    obtain ⟨r, hc, hf⟩ := obn_some hf
    refine g_cvi (As := [.int (i2 v3)]) (rest := []) X w (k_X1_naming X.2.2.1 v3 hv3 w.2.2 hc) lk_X10_289 cl_1 KD_3 ⟨rfl, rfl⟩ ⟨nle rfl, nle rfl⟩ ⟨nle rfl, nle rfl⟩ hl.1 rfl (nle rfl) dX10_lonely_20 (fun hr H locs w => ?_)
    refine g_if_ne (tgt := 36) X hr dX10_lonely_23 (by decide) (fun cd_2 => ?_) (fun cd_2 => ?_)
    · replace hf := ite_f cd_2 hf
      obtain ⟨v3_2, ev3_2, hf⟩ := lt_some hf
      have hv3_2 : inR v3_2 := inR_of ev3_2 (inR_wrap _)
      refine lv_iinc (v := i2 v3_2) (lv' := [(3, .int (i2 v3_2)), (0, .ref (ad 0)), (1, .int (i2 v1)), (2, .int (i2 v2))]) hx hb dX10_lonely_36 hl (k := 3) rfl (by rw [ev3_2]; exact i2_add _ _) (by decide) rfl (fun ls hl => ?_)
      refine lv_goto (tgt := 4) hx hb dX10_lonely_39 (by decide) ?_
      exact HC v2 v3_2 _ _ _ (Option.some.inj hf).symm hv2 hv3_2 (lv_sub hl [1, 2, 3, 0] rfl) w
    · replace hf := ite_t cd_2 hf
      refine lv_iload_n hx hb dX10_lonely_26 rfl (lv_at hl 2 rfl) ?_
      refine lv_iload_n hx hb dX10_lonely_27 rfl (lv_at hl 1 rfl) ?_
      refine g_icmp_ne (tgt := 33) X hv2 hv1 dX10_lonely_28 (by decide) (fun cd_3 => ?_) (fun cd_3 => ?_)
      · replace hf := ite_f cd_3 hf
        obtain ⟨v2_2, ev2_2, hf⟩ := lt_some hf
        have hv2_2 : inR v2_2 := inR_of ev2_2 (inR_wrap _)
        refine lv_iinc (v := i2 v2_2) (lv' := [(2, .int (i2 v2_2)), (0, .ref (ad 0)), (1, .int (i2 v1)), (3, .int (i2 v3))]) hx hb dX10_lonely_33 hl (k := 2) rfl (by rw [ev2_2]; exact i2_add _ _) (by decide) rfl (fun ls hl => ?_)
        obtain ⟨v3_3, ev3_3, hf⟩ := lt_some hf
        have hv3_3 : inR v3_3 := inR_of ev3_3 (inR_wrap _)
        refine lv_iinc (v := i2 v3_3) (lv' := [(3, .int (i2 v3_3)), (2, .int (i2 v2_2)), (0, .ref (ad 0)), (1, .int (i2 v1))]) hx hb dX10_lonely_36 hl (k := 3) rfl (by rw [ev3_3]; exact i2_add _ _) (by decide) rfl (fun ls hl => ?_)
        refine lv_goto (tgt := 4) hx hb dX10_lonely_39 (by decide) ?_
        exact HC v2_2 v3_3 _ _ _ (Option.some.inj hf).symm hv2_2 hv3_3 (lv_sub hl [2, 3, 1, 0] rfl) w
      · replace hf := ite_t cd_3 hf
        refine lv_iload_n hx hb dX10_lonely_31 rfl (lv_at hl 3 rfl) ?_
        exact HR v3 _ _ _ _ (Option.some.inj hf).symm hv3 w dX10_lonely_32
set_option maxRecDepth 100000 in
set_option maxHeartbeats 4000000 in
theorem l_X10_lonely_4 (X : CX p s m args c cX10_lonely 4 RX10 D aC ad sg A H0) (v1 : Int) (hv1 : inR v1) {M : Mem} {out : (Int × Int) ⊕ (Int)} (HE : ∀ (y2 : Int) (y3 : Int) (H : Heap) (locs : List Loc) (ls : Array Slot), out = .inl (y2, y3) → inR y2 → inR y3 → lv_has ls 4 [(0, .ref (ad 0)), (1, .int (i2 v1)), (2, .int (i2 y2)), (3, .int (i2 y3))] → WS D aC ad A H0 M H locs → W p l e rm_X10_lonely s m args below meth c H locs 0 0 Q (F0 m 42 ls [])) (HR : ∀ (r : Int) (H : Heap) (locs : List Loc) (pc : Nat) (ls : Array Slot), out = .inr r → inR r → WS D aC ad A H0 M H locs → decode cX10_lonely pc = .ok (.ireturn, 1) → W p l e rm_X10_lonely s m args below meth c H locs 0 0 Q (F0 m pc ls [.int (i2 r)])) : ∀ (n : Nat) (v2 : Int) (v3 : Int), whl (fun s => f_X10_lonely_s4 v1 M s.1 s.2) n (v2, v3) = some out → inR v2 → inR v3 → ∀ {H : Heap} {locs : List Loc} {ls : Array Slot}, lv_has ls 4 [(0, .ref (ad 0)), (1, .int (i2 v1)), (2, .int (i2 v2)), (3, .int (i2 v3))] → WS D aC ad A H0 M H locs → W p l e rm_X10_lonely s m args below meth c H locs 0 0 Q (F0 m 4 ls []) := by
  intro n
  induction n with
  | zero => intro v2 v3 hf; exact (whl_zero hf).elim
  | succ n ih =>
    intro v2 v3 hf hv2 hv3 H locs ls hl w
    obtain ⟨o, hf, hk1, hk2⟩ := whl_step hf
    exact b_X10_lonely_s4 X v1 hv1 (fun y2 y3 H locs ls eo hy2 hy3 hl w => ih y2 y3 (hk1 _ eo) hy2 hy3 hl w) (fun y2 y3 H locs ls eo hy2 hy3 hl w => HE y2 y3 H locs ls (hk2 _ eo).symm hy2 hy3 hl w) (fun r H locs pc ls eo hP w dg => HR r H locs pc ls (hk2 _ eo).symm hP w dg) v2 hv2 v3 hv3 hf hl w
set_option maxRecDepth 100000 in
set_option maxHeartbeats 4000000 in
theorem b_X10_lonely_j42 (X : CX p s m args c cX10_lonely 4 RX10 D aC ad sg A H0) {M : Mem} {o : Int} (HR : ∀ (r : Int) (H : Heap) (locs : List Loc) (pc : Nat) (ls : Array Slot), o = r → inR r → WS D aC ad A H0 M H locs → decode cX10_lonely pc = .ok (.ireturn, 1) → W p l e rm_X10_lonely s m args below meth c H locs 0 0 Q (F0 m pc ls [.int (i2 r)])) (hf : f_X10_lonely_j42 M = some o) {H : Heap} {locs : List Loc} {ls : Array Slot} (hl : lv_has ls 4 []) (w : WS D aC ad A H0 M H locs) : W p l e rm_X10_lonely s m args below meth c H locs 0 0 Q (F0 m 42 ls []) := by
  have hx := X.1.1
  have hb := X.1.2.1
  unfold f_X10_lonely_j42 at hf
  refine g_iconst X dX10_lonely_42 ?_
  exact HR (-1) _ _ _ _ (Option.some.inj hf).symm (inL rfl) w dX10_lonely_43
set_option maxRecDepth 100000 in
set_option maxHeartbeats 4000000 in
theorem b_X10_lonely_0 (X : CX p s m args c cX10_lonely 4 RX10 D aC ad sg A H0) {M : Mem} {o : Int} (HR : ∀ (r : Int) (H : Heap) (locs : List Loc) (pc : Nat) (ls : Array Slot), o = r → inR r → WS D aC ad A H0 M H locs → decode cX10_lonely pc = .ok (.ireturn, 1) → W p l e rm_X10_lonely s m args below meth c H locs 0 0 Q (F0 m pc ls [.int (i2 r)])) (p1 : Int) (hp1 : inR p1) (hf : f_X10_lonely p1 M = some o) {H : Heap} {locs : List Loc} {ls : Array Slot} (hl : lv_has ls 4 [(0, .ref (ad 0)), (1, .int (i2 p1))]) (w : WS D aC ad A H0 M H locs) : W p l e rm_X10_lonely s m args below meth c H locs 0 0 Q (F0 m 0 ls []) := by
  have hx := X.1.1
  have hb := X.1.2.1
  unfold f_X10_lonely at hf
  refine g_iconst X dX10_lonely_0 ?_
  refine g_istn (v := 0) (lv' := [(2, .int (i2 0)), (0, .ref (ad 0)), (1, .int (i2 p1))]) X rfl dX10_lonely_1 rfl hl (by decide) rfl (fun ls hl => ?_)
  refine g_iconst X dX10_lonely_2 ?_
  refine g_istn (v := 0) (lv' := [(3, .int (i2 0)), (2, .int (i2 0)), (0, .ref (ad 0)), (1, .int (i2 p1))]) X rfl dX10_lonely_3 rfl hl (by decide) rfl (fun ls hl => ?_)
  obtain ⟨q, hq, h1, h2⟩ := lpr_some hf
  exact l_X10_lonely_4 X p1 hp1 (out := q) (fun y2 y3 H locs ls eq hy2 hy3 hl w => b_X10_lonely_j42 X  HR  (h1 _ eq) (lv_sub hl [] rfl) w) (fun r H locs pc ls eq hP w dg => HR r H locs pc ls (Option.some.inj (h2 _ eq)).symm hP w dg) FU 0 0 hq (inL rfl) (inL rfl) (lv_sub hl [2, 3, 1, 0] rfl) w
set_option maxRecDepth 100000 in
set_option maxHeartbeats 4000000 in
theorem k_X10_lonely {l : Launch} {D : va_G} {aC : Nat → ClassId} {ad : Nat → Nat} {sg : SG} (hi : Inj ad) (p1 : Int) (hp1 : inR p1) {M : Mem} (hM : inM M) {r : Int} (hf : f_X10_lonely p1 M = some r) : MetI l D aC ad sg yX10_lonely cX10_lonely 4 (some .int) rm_X10_lonely 0 0 [.ref (ad 0), .int (i2 p1)] M r M := by
  refine MetI.ofI (by decide +kernel) (nle rfl) hi hM (fun p e s m args below meth c Q H0 ls X hl w hret => ?_)
  exact b_X10_lonely_0 X  (fun r1 H locs pc ls eo hP w dg => by cases eo; exact hret H locs pc ls hP w dg) p1 hp1 hf hl w
set_option maxRecDepth 100000 in
set_option maxHeartbeats 4000000 in
theorem b_X10_ring_s24 (X : CX p s m args c cX10_ring 4 RX10 D aC ad sg A H0) (v1 : Int) (hv1 : inR v1) (v2 : Int) (hv2 : inR v2) {M : Mem} {o : (Int) ⊕ ((Int) ⊕ (Int))} (HC : ∀ (y3 : Int) (H : Heap) (locs : List Loc) (ls : Array Slot), o = .inl y3 → inR y3 → lv_has ls 4 [(0, .ref (ad 0)), (1, .int (i2 v1)), (2, .int (i2 v2)), (3, .int (i2 y3))] → WS D aC ad A H0 M H locs → W p l e rm_X10_ring s m args below meth c H locs 0 0 Q (F0 m 24 ls [])) (HE : ∀ (y3 : Int) (H : Heap) (locs : List Loc) (ls : Array Slot), o = .inr (.inl y3) → inR y3 → lv_has ls 4 [(0, .ref (ad 0)), (1, .int (i2 v1)), (2, .int (i2 v2)), (3, .int (i2 y3))] → WS D aC ad A H0 M H locs → W p l e rm_X10_ring s m args below meth c H locs 0 0 Q (F0 m 60 ls [])) (HR : ∀ (r : Int) (H : Heap) (locs : List Loc) (pc : Nat) (ls : Array Slot), o = .inr (.inr r) → inR r → WS D aC ad A H0 M H locs → decode cX10_ring pc = .ok (.ireturn, 1) → W p l e rm_X10_ring s m args below meth c H locs 0 0 Q (F0 m pc ls [.int (i2 r)])) (v3 : Int) (hv3 : inR v3) (hf : f_X10_ring_s24 v1 v2 M v3 = some o) {H : Heap} {locs : List Loc} {ls : Array Slot} (hl : lv_has ls 4 [(0, .ref (ad 0)), (1, .int (i2 v1)), (2, .int (i2 v2)), (3, .int (i2 v3))]) (w : WS D aC ad A H0 M H locs) : W p l e rm_X10_ring s m args below meth c H locs 0 0 Q (F0 m 24 ls []) := by
  have hx := X.1.1
  have hb := X.1.2.1
  unfold f_X10_ring_s24 at hf
  refine lv_iload_n hx hb dX10_ring_24 rfl (lv_at hl 3 rfl) ?_
  refine lv_iload_n hx hb dX10_ring_25 rfl (lv_at hl 1 rfl) ?_
  refine g_icmp_ge (tgt := 60) X hv3 hv1 dX10_ring_26 (by decide) (fun cd => ?_) (fun cd => ?_)
  · replace hf := ite_t cd hf
    exact HE v3 _ _ _ (Option.some.inj hf).symm hv3 hl w
  · replace hf := ite_f cd hf
    refine lv_iload_n hx hb dX10_ring_29 rfl (lv_at hl 2 rfl) ?_
    refine lv_iload_n hx hb dX10_ring_30 rfl (lv_at hl 3 rfl) ?_
    refine g_ishr X dX10_ring_31 ?_
    refine g_iconst X dX10_ring_32 ?_
    refine g_iand X dX10_ring_33 ?_
    refine g_if_eq (tgt := 54) X (inR_toInt _) dX10_ring_34 (by decide) (fun cd_2 => ?_) (fun cd_2 => ?_)
    · replace hf := ite_t cd_2 hf
      obtain ⟨v3_2, ev3_2, hf⟩ := lt_some hf
      have hv3_2 : inR v3_2 := inR_of ev3_2 (inR_wrap _)
      refine lv_iinc (v := i2 v3_2) (lv' := [(3, .int (i2 v3_2)), (0, .ref (ad 0)), (1, .int (i2 v1)), (2, .int (i2 v2))]) hx hb dX10_ring_54 hl (k := 3) rfl (by rw [ev3_2]; exact i2_add _ _) (by decide) rfl (fun ls hl => ?_)
      refine lv_goto (tgt := 24) hx hb dX10_ring_57 (by decide) ?_
      exact HC v3_2 _ _ _ (Option.some.inj hf).symm hv3_2 (lv_sub hl [1, 2, 3, 0] rfl) w
    · replace hf := ite_f cd_2 hf
      refine lv_aload_n hx hb dX10_ring_37 rfl (lv_at hl 0 rfl) ?_
      refine g_getr X w fg_X10_10 KD_0 FR_0_0 dX10_ring_38 ?_
      refine lv_iload_n hx hb dX10_ring_41 rfl (lv_at hl 3 rfl) ?_
      obtain ⟨r, hc, hf⟩ := obn_some hf
      refine g_cvi (As := [.int (i2 v3)]) (rest := []) X w (k_X1_reach X.2.2.1 v3 hv3 w.2.2 hc) lk_X10_292 cl_1 KD_3 ⟨rfl, rfl⟩ ⟨nle rfl, nle rfl⟩ ⟨nle rfl, nle rfl⟩ hl.1 rfl (nle rfl) dX10_ring_42 (fun hr H locs w => ?_)
      refine lv_iload_n hx hb dX10_ring_45 rfl (lv_at hl 1 rfl) ?_
      refine g_ishr X dX10_ring_46 ?_
      refine g_iconst X dX10_ring_47 ?_
      refine g_iand X dX10_ring_48 ?_
      refine g_if_eq (tgt := 54) X (inR_toInt _) dX10_ring_49 (by decide) (fun cd_3 => ?_) (fun cd_3 => ?_)
      · replace hf := ite_t cd_3 hf
        obtain ⟨v3_3, ev3_3, hf⟩ := lt_some hf
        have hv3_3 : inR v3_3 := inR_of ev3_3 (inR_wrap _)
        refine lv_iinc (v := i2 v3_3) (lv' := [(3, .int (i2 v3_3)), (0, .ref (ad 0)), (1, .int (i2 v1)), (2, .int (i2 v2))]) hx hb dX10_ring_54 hl (k := 3) rfl (by rw [ev3_3]; exact i2_add _ _) (by decide) rfl (fun ls hl => ?_)
        refine lv_goto (tgt := 24) hx hb dX10_ring_57 (by decide) ?_
        exact HC v3_3 _ _ _ (Option.some.inj hf).symm hv3_3 (lv_sub hl [1, 2, 3, 0] rfl) w
      · replace hf := ite_f cd_3 hf
        refine lv_iload_n hx hb dX10_ring_52 rfl (lv_at hl 3 rfl) ?_
        exact HR v3 _ _ _ _ (Option.some.inj hf).symm hv3 w dX10_ring_53
set_option maxRecDepth 100000 in
set_option maxHeartbeats 4000000 in
theorem l_X10_ring_24 (X : CX p s m args c cX10_ring 4 RX10 D aC ad sg A H0) (v1 : Int) (hv1 : inR v1) (v2 : Int) (hv2 : inR v2) {M : Mem} {out : (Int) ⊕ (Int)} (HE : ∀ (y3 : Int) (H : Heap) (locs : List Loc) (ls : Array Slot), out = .inl y3 → inR y3 → lv_has ls 4 [(0, .ref (ad 0)), (1, .int (i2 v1)), (2, .int (i2 v2)), (3, .int (i2 y3))] → WS D aC ad A H0 M H locs → W p l e rm_X10_ring s m args below meth c H locs 0 0 Q (F0 m 60 ls [])) (HR : ∀ (r : Int) (H : Heap) (locs : List Loc) (pc : Nat) (ls : Array Slot), out = .inr r → inR r → WS D aC ad A H0 M H locs → decode cX10_ring pc = .ok (.ireturn, 1) → W p l e rm_X10_ring s m args below meth c H locs 0 0 Q (F0 m pc ls [.int (i2 r)])) : ∀ (n : Nat) (v3 : Int), whl (fun s => f_X10_ring_s24 v1 v2 M s) n v3 = some out → inR v3 → ∀ {H : Heap} {locs : List Loc} {ls : Array Slot}, lv_has ls 4 [(0, .ref (ad 0)), (1, .int (i2 v1)), (2, .int (i2 v2)), (3, .int (i2 v3))] → WS D aC ad A H0 M H locs → W p l e rm_X10_ring s m args below meth c H locs 0 0 Q (F0 m 24 ls []) := by
  intro n
  induction n with
  | zero => intro v3 hf; exact (whl_zero hf).elim
  | succ n ih =>
    intro v3 hf hv3 H locs ls hl w
    obtain ⟨o, hf, hk1, hk2⟩ := whl_step hf
    exact b_X10_ring_s24 X v1 hv1 v2 hv2 (fun y3 H locs ls eo hy3 hl w => ih y3 (hk1 _ eo) hy3 hl w) (fun y3 H locs ls eo hy3 hl w => HE y3 H locs ls (hk2 _ eo).symm hy3 hl w) (fun r H locs pc ls eo hP w dg => HR r H locs pc ls (hk2 _ eo).symm hP w dg) v3 hv3 hf hl w
set_option maxRecDepth 100000 in
set_option maxHeartbeats 4000000 in
theorem b_X10_ring_j60 (X : CX p s m args c cX10_ring 4 RX10 D aC ad sg A H0) {M : Mem} {o : Int} (HR : ∀ (r : Int) (H : Heap) (locs : List Loc) (pc : Nat) (ls : Array Slot), o = r → inR r → WS D aC ad A H0 M H locs → decode cX10_ring pc = .ok (.ireturn, 1) → W p l e rm_X10_ring s m args below meth c H locs 0 0 Q (F0 m pc ls [.int (i2 r)])) (v1 : Int) (hv1 : inR v1) (hf : f_X10_ring_j60 v1 M = some o) {H : Heap} {locs : List Loc} {ls : Array Slot} (hl : lv_has ls 4 [(1, .int (i2 v1))]) (w : WS D aC ad A H0 M H locs) : W p l e rm_X10_ring s m args below meth c H locs 0 0 Q (F0 m 60 ls []) := by
  have hx := X.1.1
  have hb := X.1.2.1
  unfold f_X10_ring_j60 at hf
  refine lv_iload_n hx hb dX10_ring_60 rfl (lv_at hl 0 rfl) ?_
  exact HR v1 _ _ _ _ (Option.some.inj hf).symm hv1 w dX10_ring_61
set_option maxRecDepth 100000 in
set_option maxHeartbeats 4000000 in
theorem b_X10_ring_0 (X : CX p s m args c cX10_ring 4 RX10 D aC ad sg A H0) {M : Mem} {o : Int} (HR : ∀ (r : Int) (H : Heap) (locs : List Loc) (pc : Nat) (ls : Array Slot), o = r → inR r → WS D aC ad A H0 M H locs → decode cX10_ring pc = .ok (.ireturn, 1) → W p l e rm_X10_ring s m args below meth c H locs 0 0 Q (F0 m pc ls [.int (i2 r)])) (p1 : Int) (hp1 : inR p1) (hf : f_X10_ring p1 M = some o) {H : Heap} {locs : List Loc} {ls : Array Slot} (hl : lv_has ls 4 [(0, .ref (ad 0)), (1, .int (i2 p1))]) (w : WS D aC ad A H0 M H locs) : W p l e rm_X10_ring s m args below meth c H locs 0 0 Q (F0 m 0 ls []) := by
  have hx := X.1.1
  have hb := X.1.2.1
  unfold f_X10_ring at hf
  refine lv_aload_n hx hb dX10_ring_0 rfl (lv_at hl 0 rfl) ?_
  refine g_getr X w fg_X10_10 KD_0 FR_0_0 dX10_ring_1 ?_
  refine lv_iload_n hx hb dX10_ring_4 rfl (lv_at hl 1 rfl) ?_
  obtain ⟨r, hc, hf⟩ := obn_some hf
  refine g_cvi (As := [.int (i2 p1)]) (rest := []) X w (k_X1_has X.2.2.1 p1 hp1 w.2.2 hc) lk_X10_120 cl_1 KD_3 ⟨rfl, rfl⟩ ⟨nle rfl, nle rfl⟩ ⟨nle rfl, nle rfl⟩ hl.1 rfl (nle rfl) dX10_ring_5 (fun hr H locs w => ?_)
  refine g_if_ne (tgt := 13) X hr dX10_ring_8 (by decide) (fun cd => ?_) (fun cd => ?_)
  · replace hf := ite_f cd hf
    refine lv_aload_n hx hb dX10_ring_13 rfl (lv_at hl 0 rfl) ?_
    refine g_getr X w fg_X10_10 KD_0 FR_0_0 dX10_ring_14 ?_
    refine lv_iload_n hx hb dX10_ring_17 rfl (lv_at hl 1 rfl) ?_
    obtain ⟨r_2, hc, hf⟩ := obn_some hf
    refine g_cvi (As := [.int (i2 p1)]) (rest := []) X w (k_X1_reach X.2.2.1 p1 hp1 w.2.2 hc) lk_X10_292 cl_1 KD_3 ⟨rfl, rfl⟩ ⟨nle rfl, nle rfl⟩ ⟨nle rfl, nle rfl⟩ hl.1 rfl (nle rfl) dX10_ring_18 (fun hr_2 H locs w => ?_)
    refine g_istn (v := r_2) (lv' := [(2, .int (i2 r_2)), (0, .ref (ad 0)), (1, .int (i2 p1))]) X rfl dX10_ring_21 rfl hl (by decide) rfl (fun ls hl => ?_)
    refine g_iconst X dX10_ring_22 ?_
    refine g_istn (v := 0) (lv' := [(3, .int (i2 0)), (2, .int (i2 r_2)), (0, .ref (ad 0)), (1, .int (i2 p1))]) X rfl dX10_ring_23 rfl hl (by decide) rfl (fun ls hl => ?_)
    obtain ⟨q, hq, h1, h2⟩ := lpr_some hf
    exact l_X10_ring_24 X p1 hp1 r_2 hr_2 (out := q) (fun y3 H locs ls eq hy3 hl w => b_X10_ring_j60 X  HR p1 hp1 (h1 _ eq) (lv_sub hl [1] rfl) w) (fun r H locs pc ls eq hP w dg => HR r H locs pc ls (Option.some.inj (h2 _ eq)).symm hP w dg) FU 0 hq (inL rfl) (lv_sub hl [2, 3, 1, 0] rfl) w
  · replace hf := ite_t cd hf
    refine g_iconst X dX10_ring_11 ?_
    exact HR (-1) _ _ _ _ (Option.some.inj hf).symm (inL rfl) w dX10_ring_12
set_option maxRecDepth 100000 in
set_option maxHeartbeats 4000000 in
theorem k_X10_ring {l : Launch} {D : va_G} {aC : Nat → ClassId} {ad : Nat → Nat} {sg : SG} (hi : Inj ad) (p1 : Int) (hp1 : inR p1) {M : Mem} (hM : inM M) {r : Int} (hf : f_X10_ring p1 M = some r) : MetI l D aC ad sg yX10_ring cX10_ring 4 (some .int) rm_X10_ring 0 0 [.ref (ad 0), .int (i2 p1)] M r M := by
  refine MetI.ofI (by decide +kernel) (nle rfl) hi hM (fun p e s m args below meth c Q H0 ls X hl w hret => ?_)
  exact b_X10_ring_0 X  (fun r1 H locs pc ls eo hP w dg => by cases eo; exact hret H locs pc ls hP w dg) p1 hp1 hf hl w
set_option maxRecDepth 100000 in
set_option maxHeartbeats 4000000 in
theorem b_X10_helper_0 (X : CX p s m args c cX10_helper 2 RX10 D aC ad sg A H0) {o : Int × Mem} (HR : ∀ (r : Int) (M1 : Mem) (H : Heap) (locs : List Loc) (pc : Nat) (ls : Array Slot), o = (r, M1) → inR r → WS D aC ad A H0 M1 H locs → decode cX10_helper pc = .ok (.ireturn, 1) → W p l e rm_X10_helper s m args below meth c H locs 0 0 Q (F0 m pc ls [.int (i2 r)])) (p1 : Int) (hp1 : inR p1) (M : Mem) (hf : f_X10_helper p1 M = some o) {H : Heap} {locs : List Loc} {ls : Array Slot} (hl : lv_has ls 2 [(0, .ref (ad 0)), (1, .int (i2 p1))]) (w : WS D aC ad A H0 M H locs) : W p l e rm_X10_helper s m args below meth c H locs 0 0 Q (F0 m 0 ls []) := by
  have hx := X.1.1
  have hb := X.1.2.1
  unfold f_X10_helper at hf
  refine lv_iload_n hx hb dX10_helper_0 rfl (lv_at hl 1 rfl) ?_
  refine g_iconst X dX10_helper_1 ?_
  refine g_bipush X dX10_helper_2 (by decide) ?_
  obtain ⟨r, hc, hf⟩ := obn_some hf
  refine g_csi (As := [.int (i2 p1), .int (i2 1), .int (i2 60)]) (rest := []) X w (k_X10_within X.2.2.1 p1 hp1 1 (inL rfl) 60 (inL rfl) w.2.2 hc) lk_X10_105 ⟨rfl, rfl⟩ ⟨nle rfl, nle rfl⟩ ⟨nle rfl, nle rfl⟩ hl.1 rfl (nle rfl) dX10_helper_4 (fun hr H locs w => ?_)
  refine g_if_eq (tgt := 21) X hr dX10_helper_7 (by decide) (fun cd => ?_) (fun cd => ?_)
  · replace hf := ite_t cd hf
    refine g_iconst X dX10_helper_21 ?_
    exact HR (-1) M _ _ _ _ (Option.some.inj hf).symm (inL rfl) w dX10_helper_22
  · replace hf := ite_f cd hf
    refine lv_aload_n hx hb dX10_helper_10 rfl (lv_at hl 0 rfl) ?_
    refine g_getr X w fg_X10_67 KD_0 FR_0_7 dX10_helper_11 ?_
    refine lv_iload_n hx hb dX10_helper_14 rfl (lv_at hl 1 rfl) ?_
    obtain ⟨r_2, M_2, hc, hf⟩ := bnd_some hf
    refine g_cvi (As := [.int (i2 p1)]) (rest := []) X w (k_X3_add X.2.2.1 p1 hp1 w.2.2 hc) lk_X10_295 cl_3 KD_51 ⟨rfl, rfl⟩ ⟨nle rfl, nle rfl⟩ ⟨nle rfl, nle rfl⟩ hl.1 rfl (nle rfl) dX10_helper_15 (fun hr_2 H locs w_M_2 => ?_)
    refine lv_goto (tgt := 22) hx hb dX10_helper_18 (by decide) ?_
    exact HR r_2 M_2 _ _ _ _ (Option.some.inj hf).symm hr_2 w_M_2 dX10_helper_22
set_option maxRecDepth 100000 in
set_option maxHeartbeats 4000000 in
theorem k_X10_helper {l : Launch} {D : va_G} {aC : Nat → ClassId} {ad : Nat → Nat} {sg : SG} (hi : Inj ad) (p1 : Int) (hp1 : inR p1) {M : Mem} (hM : inM M) {r : Int} {M' : Mem} (hf : f_X10_helper p1 M = some (r, M')) : MetI l D aC ad sg yX10_helper cX10_helper 2 (some .int) rm_X10_helper 0 0 [.ref (ad 0), .int (i2 p1)] M r M' := by
  refine MetI.ofI (by decide +kernel) (nle rfl) hi hM (fun p e s m args below meth c Q H0 ls X hl w hret => ?_)
  exact b_X10_helper_0 X  (fun r1 M1 H locs pc ls eo hP w dg => by cases eo; exact hret H locs pc ls hP w dg) p1 hp1 M hf hl w
set_option maxRecDepth 100000 in
set_option maxHeartbeats 4000000 in
theorem b_X10_help_s46 (X : CX p s m args c cX10_help 3 RX10 D aC ad sg A H0) (v1 : Int) (hv1 : inR v1) {o : (Int × Mem) ⊕ (Int × Mem)} (HC : ∀ (y2 : Int) (M1 : Mem) (H : Heap) (locs : List Loc) (ls : Array Slot), o = .inl (y2, M1) → inR y2 → lv_has ls 3 [(0, .ref (ad 0)), (1, .int (i2 v1)), (2, .int (i2 y2))] → WS D aC ad A H0 M1 H locs → W p l e rm_X10_help s m args below meth c H locs 0 0 Q (F0 m 46 ls [])) (HE : ∀ (y2 : Int) (M1 : Mem) (H : Heap) (locs : List Loc) (ls : Array Slot), o = .inr (y2, M1) → inR y2 → lv_has ls 3 [(0, .ref (ad 0)), (1, .int (i2 v1)), (2, .int (i2 y2))] → WS D aC ad A H0 M1 H locs → W p l e rm_X10_help s m args below meth c H locs 0 0 Q (F0 m 95 ls [])) (v2 : Int) (hv2 : inR v2) (M : Mem) (hf : f_X10_help_s46 v1 v2 M = some o) {H : Heap} {locs : List Loc} {ls : Array Slot} (hl : lv_has ls 3 [(0, .ref (ad 0)), (1, .int (i2 v1)), (2, .int (i2 v2))]) (w : WS D aC ad A H0 M H locs) : W p l e rm_X10_help s m args below meth c H locs 0 0 Q (F0 m 46 ls []) := by
  have hx := X.1.1
  have hb := X.1.2.1
  unfold f_X10_help_s46 at hf
  refine lv_iload_n hx hb dX10_help_46 rfl (lv_at hl 2 rfl) ?_
  refine lv_aload_n hx hb dX10_help_47 rfl (lv_at hl 0 rfl) ?_
  refine g_getr X w fg_X10_10 KD_0 FR_0_0 dX10_help_48 ?_
  refine g_geti X w fg_X10_194 KD_3 FR_3_0 dX10_help_51 ?_
  refine g_icmp_ge (tgt := 95) X hv2 (w.2.2 _ _) dX10_help_54 (by decide) (fun cd => ?_) (fun cd => ?_)
  · replace hf := ite_t cd hf
    exact HE v2 M _ _ _ (Option.some.inj hf).symm hv2 hl w
  · replace hf := ite_f cd hf
    refine lv_aload_n hx hb dX10_help_57 rfl (lv_at hl 0 rfl) ?_
    refine g_getr X w fg_X10_78 KD_0 FR_0_9 dX10_help_58 ?_
    refine lv_iload_n hx hb dX10_help_61 rfl (lv_at hl 2 rfl) ?_
    obtain ⟨hg, hf⟩ := gd_some hf
    refine g_iald X w KD_1 hv2 hg dX10_help_62 ?_
    refine g_iconst X dX10_help_63 ?_
    refine g_icmp_eq (tgt := 89) X (w.2.2 _ _) (inL rfl) dX10_help_64 (by decide) (fun cd_2 => ?_) (fun cd_2 => ?_)
    · replace hf := ite_t cd_2 hf
      obtain ⟨v2_2, ev2_2, hf⟩ := lt_some hf
      have hv2_2 : inR v2_2 := inR_of ev2_2 (inR_wrap _)
      refine lv_iinc (v := i2 v2_2) (lv' := [(2, .int (i2 v2_2)), (0, .ref (ad 0)), (1, .int (i2 v1))]) hx hb dX10_help_89 hl (k := 2) rfl (by rw [ev2_2]; exact i2_add _ _) (by decide) rfl (fun ls hl => ?_)
      refine lv_goto (tgt := 46) hx hb dX10_help_92 (by decide) ?_
      exact HC v2_2 M _ _ _ (Option.some.inj hf).symm hv2_2 (lv_sub hl [1, 2, 0] rfl) w
    · replace hf := ite_f cd_2 hf
      refine lv_aload_n hx hb dX10_help_67 rfl (lv_at hl 0 rfl) ?_
      refine g_getr X w fg_X10_67 KD_0 FR_0_7 dX10_help_68 ?_
      refine lv_aload_n hx hb dX10_help_71 rfl (lv_at hl 0 rfl) ?_
      refine g_getr X w fg_X10_78 KD_0 FR_0_9 dX10_help_72 ?_
      refine lv_iload_n hx hb dX10_help_75 rfl (lv_at hl 2 rfl) ?_
      obtain ⟨hg_2, hf⟩ := gd_some hf
      refine g_iald X w KD_1 hv2 hg_2 dX10_help_76 ?_
      refine lv_aload_n hx hb dX10_help_77 rfl (lv_at hl 0 rfl) ?_
      refine g_getr X w fg_X10_19 KD_0 FR_0_1 dX10_help_78 ?_
      refine lv_iload_n hx hb dX10_help_81 rfl (lv_at hl 2 rfl) ?_
      refine g_iconst X dX10_help_82 ?_
      obtain ⟨r, hc, hf⟩ := obn_some hf
      refine g_cvi (As := [.int (i2 v2), .int (i2 1)]) (rest := [.int (i2 (M 1 v2.toNat)), .ref (ad 51)]) X w (k_X5_level X.2.2.1 v2 hv2 1 (inL rfl) w.2.2 hc) lk_X10_304 cl_5 KD_17 ⟨rfl, rfl⟩ ⟨nle rfl, nle rfl⟩ ⟨nle rfl, nle rfl⟩ hl.1 rfl (nle rfl) dX10_help_83 (fun hr H locs w => ?_)
      obtain ⟨M_2, hc, hf⟩ := obn_some hf
      refine g_cvv (As := [.int (i2 (M 1 v2.toNat)), .int (i2 r)]) (rest := []) X w (k_X3_addNeed X.2.2.1 (M 1 v2.toNat) (w.2.2 _ _) r hr w.2.2 hc) lk_X10_307 cl_3 KD_51 ⟨rfl, rfl⟩ ⟨nle rfl, nle rfl⟩ ⟨nle rfl, nle rfl⟩ hl.1 rfl (nle rfl) dX10_help_86 (fun H locs w_M_2 => ?_)
      obtain ⟨v2_3, ev2_3, hf⟩ := lt_some hf
      have hv2_3 : inR v2_3 := inR_of ev2_3 (inR_wrap _)
      refine lv_iinc (v := i2 v2_3) (lv' := [(2, .int (i2 v2_3)), (0, .ref (ad 0)), (1, .int (i2 v1))]) hx hb dX10_help_89 hl (k := 2) rfl (by rw [ev2_3]; exact i2_add _ _) (by decide) rfl (fun ls hl => ?_)
      refine lv_goto (tgt := 46) hx hb dX10_help_92 (by decide) ?_
      exact HC v2_3 M_2 _ _ _ (Option.some.inj hf).symm hv2_3 (lv_sub hl [1, 2, 0] rfl) w_M_2
set_option maxRecDepth 100000 in
set_option maxHeartbeats 4000000 in
theorem l_X10_help_46 (X : CX p s m args c cX10_help 3 RX10 D aC ad sg A H0) (v1 : Int) (hv1 : inR v1) {out : Int × Mem} (HE : ∀ (y2 : Int) (M1 : Mem) (H : Heap) (locs : List Loc) (ls : Array Slot), out = (y2, M1) → inR y2 → lv_has ls 3 [(0, .ref (ad 0)), (1, .int (i2 v1)), (2, .int (i2 y2))] → WS D aC ad A H0 M1 H locs → W p l e rm_X10_help s m args below meth c H locs 0 0 Q (F0 m 95 ls [])) : ∀ (n : Nat) (v2 : Int) (M : Mem), whl (fun s => f_X10_help_s46 v1 s.1 s.2) n (v2, M) = some out → inR v2 → ∀ {H : Heap} {locs : List Loc} {ls : Array Slot}, lv_has ls 3 [(0, .ref (ad 0)), (1, .int (i2 v1)), (2, .int (i2 v2))] → WS D aC ad A H0 M H locs → W p l e rm_X10_help s m args below meth c H locs 0 0 Q (F0 m 46 ls []) := by
  intro n
  induction n with
  | zero => intro v2 M hf; exact (whl_zero hf).elim
  | succ n ih =>
    intro v2 M hf hv2 H locs ls hl w
    obtain ⟨o, hf, hk1, hk2⟩ := whl_step hf
    exact b_X10_help_s46 X v1 hv1 (fun y2 M1 H locs ls eo hy2 hl w => ih y2 M1 (hk1 _ eo) hy2 hl w) (fun y2 M1 H locs ls eo hy2 hl w => HE y2 M1 H locs ls (hk2 _ eo).symm hy2 hl w) v2 hv2 M hf hl w
set_option maxRecDepth 100000 in
set_option maxHeartbeats 4000000 in
theorem b_X10_help_j95 (X : CX p s m args c cX10_help 3 RX10 D aC ad sg A H0) {o : Int × Mem} (HR : ∀ (r : Int) (M1 : Mem) (H : Heap) (locs : List Loc) (pc : Nat) (ls : Array Slot), o = (r, M1) → inR r → WS D aC ad A H0 M1 H locs → decode cX10_help pc = .ok (.ireturn, 1) → W p l e rm_X10_help s m args below meth c H locs 0 0 Q (F0 m pc ls [.int (i2 r)])) (v1 : Int) (hv1 : inR v1) (M : Mem) (hf : f_X10_help_j95 v1 M = some o) {H : Heap} {locs : List Loc} {ls : Array Slot} (hl : lv_has ls 3 [(0, .ref (ad 0)), (1, .int (i2 v1))]) (w : WS D aC ad A H0 M H locs) : W p l e rm_X10_help s m args below meth c H locs 0 0 Q (F0 m 95 ls []) := by
  have hx := X.1.1
  have hb := X.1.2.1
  unfold f_X10_help_j95 at hf
  refine lv_aload_n hx hb dX10_help_95 rfl (lv_at hl 0 rfl) ?_
  refine g_getr X w fg_X10_67 KD_0 FR_0_7 dX10_help_96 ?_
  refine lv_aload_n hx hb dX10_help_99 rfl (lv_at hl 0 rfl) ?_
  refine g_getr X w fg_X10_10 KD_0 FR_0_0 dX10_help_100 ?_
  refine g_geti X w fg_X10_151 KD_3 FR_3_13 dX10_help_103 ?_
  obtain ⟨M_2, hc, hf⟩ := obn_some hf
  refine g_cvv (As := [.int (i2 (M 3 13))]) (rest := []) X w (k_X3_divide X.2.2.1 (M 3 13) (w.2.2 _ _) w.2.2 hc) lk_X10_310 cl_3 KD_51 ⟨rfl, rfl⟩ ⟨nle rfl, nle rfl⟩ ⟨nle rfl, nle rfl⟩ hl.1 rfl (nle rfl) dX10_help_106 (fun H locs w_M_2 => ?_)
  refine lv_iload_n hx hb dX10_help_109 rfl (lv_at hl 1 rfl) ?_
  refine g_iconst X dX10_help_110 ?_
  refine g_icmp_ne (tgt := 124) X hv1 (inL rfl) dX10_help_111 (by decide) (fun cd => ?_) (fun cd => ?_)
  · replace hf := ite_f cd hf
    refine lv_aload_n hx hb dX10_help_124 rfl (lv_at hl 0 rfl) ?_
    refine g_getr X w_M_2 fg_X10_67 KD_0 FR_0_7 dX10_help_125 ?_
    refine g_getr X w_M_2 fg_X10_316 KD_51 FR_51_5 dX10_help_128 ?_
    refine lv_iload_n hx hb dX10_help_131 rfl (lv_at hl 1 rfl) ?_
    obtain ⟨hg, hf⟩ := gd_some hf
    refine g_iald X w_M_2 KD_56 hv1 hg dX10_help_132 ?_
    exact HR (M_2 56 v1.toNat) M_2 _ _ _ _ (Option.some.inj hf).symm (w_M_2.2.2 _ _) w_M_2 dX10_help_133
  · replace hf := ite_t cd hf
    refine lv_aload_n hx hb dX10_help_114 rfl (lv_at hl 0 rfl) ?_
    refine g_getr X w_M_2 fg_X10_67 KD_0 FR_0_7 dX10_help_115 ?_
    refine g_geti X w_M_2 fg_X10_313 KD_51 FR_51_6 dX10_help_118 ?_
    refine lv_goto (tgt := 133) hx hb dX10_help_121 (by decide) ?_
    exact HR (M_2 51 6) M_2 _ _ _ _ (Option.some.inj hf).symm (w_M_2.2.2 _ _) w_M_2 dX10_help_133
set_option maxRecDepth 100000 in
set_option maxHeartbeats 4000000 in
theorem b_X10_help_0 (X : CX p s m args c cX10_help 3 RX10 D aC ad sg A H0) {o : Int × Mem} (HR : ∀ (r : Int) (M1 : Mem) (H : Heap) (locs : List Loc) (pc : Nat) (ls : Array Slot), o = (r, M1) → inR r → WS D aC ad A H0 M1 H locs → decode cX10_help pc = .ok (.ireturn, 1) → W p l e rm_X10_help s m args below meth c H locs 0 0 Q (F0 m pc ls [.int (i2 r)])) (p1 : Int) (hp1 : inR p1) (M : Mem) (hf : f_X10_help p1 M = some o) {H : Heap} {locs : List Loc} {ls : Array Slot} (hl : lv_has ls 3 [(0, .ref (ad 0)), (1, .int (i2 p1))]) (w : WS D aC ad A H0 M H locs) : W p l e rm_X10_help s m args below meth c H locs 0 0 Q (F0 m 0 ls []) := by
  have hx := X.1.1
  have hb := X.1.2.1
  unfold f_X10_help at hf
  refine lv_aload_n hx hb dX10_help_0 rfl (lv_at hl 0 rfl) ?_
  obtain ⟨r, hc, hf⟩ := obn_some hf
  refine g_cvi (As := []) (rest := []) X w (k_X10_countListed X.2.2.1  w.2.2 hc) lk_X10_239 cl_10 KD_0 ⟨rfl, rfl⟩ ⟨nle rfl, nle rfl⟩ ⟨nle rfl, nle rfl⟩ hl.1 rfl (nle rfl) dX10_help_1 (fun hr H locs w => ?_)
  refine g_if_eq (tgt := 24) X hr dX10_help_4 (by decide) (fun cd => ?_) (fun cd => ?_)
  · replace hf := ite_t cd hf
    refine g_iconst X dX10_help_24 ?_
    exact HR (-1) M _ _ _ _ (Option.some.inj hf).symm (inL rfl) w dX10_help_25
  · replace hf := ite_f cd hf
    refine lv_iload_n hx hb dX10_help_7 rfl (lv_at hl 1 rfl) ?_
    refine g_iconst X dX10_help_8 ?_
    refine lv_aload_n hx hb dX10_help_9 rfl (lv_at hl 0 rfl) ?_
    refine g_getr X w fg_X10_67 KD_0 FR_0_7 dX10_help_10 ?_
    refine g_geti X w fg_X10_297 KD_51 FR_51_0 dX10_help_13 ?_
    refine g_iconst X dX10_help_16 ?_
    refine g_isub X dX10_help_17 ?_
    obtain ⟨r_2, hc, hf⟩ := obn_some hf
    refine g_csi (As := [.int (i2 p1), .int (i2 (-1)), .int (i2 (wrap ((M 51 0) - 1)))]) (rest := []) X w (k_X10_within X.2.2.1 p1 hp1 (-1) (inL rfl) (wrap ((M 51 0) - 1)) (inR_wrap _) w.2.2 hc) lk_X10_105 ⟨rfl, rfl⟩ ⟨nle rfl, nle rfl⟩ ⟨nle rfl, nle rfl⟩ hl.1 rfl (nle rfl) dX10_help_18 (fun hr_2 H locs w => ?_)
    refine g_if_ne (tgt := 26) X hr_2 dX10_help_21 (by decide) (fun cd_2 => ?_) (fun cd_2 => ?_)
    · replace hf := ite_f cd_2 hf
      refine lv_aload_n hx hb dX10_help_26 rfl (lv_at hl 0 rfl) ?_
      refine g_getr X w fg_X10_19 KD_0 FR_0_1 dX10_help_27 ?_
      refine lv_aload_n hx hb dX10_help_30 rfl (lv_at hl 0 rfl) ?_
      refine g_geti X w fg_X10_113 KD_0 FR_0_13 dX10_help_31 ?_
      obtain ⟨M_2, hc, hf⟩ := obn_some hf
      refine g_cvv (As := [.int (i2 (M 0 13))]) (rest := []) X w (k_X5_learn X.2.2.1 (M 0 13) (w.2.2 _ _) w.2.2 hc) lk_X10_298 cl_5 KD_17 ⟨rfl, rfl⟩ ⟨nle rfl, nle rfl⟩ ⟨nle rfl, nle rfl⟩ hl.1 rfl (nle rfl) dX10_help_34 (fun H locs w_M_2 => ?_)
      refine lv_aload_n hx hb dX10_help_37 rfl (lv_at hl 0 rfl) ?_
      refine g_getr X w_M_2 fg_X10_67 KD_0 FR_0_7 dX10_help_38 ?_
      obtain ⟨M_3, hc, hf⟩ := obn_some hf
      refine g_cvv (As := []) (rest := []) X w_M_2 (k_X3_clear X.2.2.1  w_M_2.2.2 hc) lk_X10_301 cl_3 KD_51 ⟨rfl, rfl⟩ ⟨nle rfl, nle rfl⟩ ⟨nle rfl, nle rfl⟩ hl.1 rfl (nle rfl) dX10_help_41 (fun H locs w_M_3 => ?_)
      refine g_iconst X dX10_help_44 ?_
      refine g_istn (v := 0) (lv' := [(2, .int (i2 0)), (0, .ref (ad 0)), (1, .int (i2 p1))]) X rfl dX10_help_45 rfl hl (by decide) rfl (fun ls hl => ?_)
      obtain ⟨q, hq, h1⟩ := obn_some hf
      exact l_X10_help_46 X p1 hp1 (out := q) (fun y2 M1 H locs ls eq hy2 hl w => b_X10_help_j95 X  HR p1 hp1 M1 (by subst eq; exact h1) (lv_sub hl [0, 1] rfl) w)  FU 0 M_3 hq (inL rfl) (lv_sub hl [1, 2, 0] rfl) w_M_3
    · replace hf := ite_t cd_2 hf
      refine g_iconst X dX10_help_24 ?_
      exact HR (-1) M _ _ _ _ (Option.some.inj hf).symm (inL rfl) w dX10_help_25
set_option maxRecDepth 100000 in
set_option maxHeartbeats 4000000 in
theorem k_X10_help {l : Launch} {D : va_G} {aC : Nat → ClassId} {ad : Nat → Nat} {sg : SG} (hi : Inj ad) (p1 : Int) (hp1 : inR p1) {M : Mem} (hM : inM M) {r : Int} {M' : Mem} (hf : f_X10_help p1 M = some (r, M')) : MetI l D aC ad sg yX10_help cX10_help 3 (some .int) rm_X10_help 0 0 [.ref (ad 0), .int (i2 p1)] M r M' := by
  refine MetI.ofI (by decide +kernel) (nle rfl) hi hM (fun p e s m args below meth c Q H0 ls X hl w hret => ?_)
  exact b_X10_help_0 X  (fun r1 M1 H locs pc ls eo hP w dg => by cases eo; exact hret H locs pc ls hP w dg) p1 hp1 M hf hl w
set_option maxRecDepth 100000 in
set_option maxHeartbeats 4000000 in
theorem b_X10_word_0 (X : CX p s m args c cX10_word 4 RX10 D aC ad sg A H0) {o : Int × Mem} (HR : ∀ (r : Int) (M1 : Mem) (H : Heap) (locs : List Loc) (pc : Nat) (ls : Array Slot), o = (r, M1) → isZ r → WS D aC ad A H0 M1 H locs → decode cX10_word pc = .ok (.ireturn, 1) → W p l e rm_X10_word s m args below meth c H locs 0 0 Q (F0 m pc ls [.int (i2 r)])) (p1 : Int) (hp1 : inR p1) (p2 : Int) (hp2 : inR p2) (p3 : Int) (hp3 : inR p3) (M : Mem) (hf : f_X10_word p1 p2 p3 M = some o) {H : Heap} {locs : List Loc} {ls : Array Slot} (hl : lv_has ls 4 [(0, .ref (ad 0)), (1, .int (i2 p1)), (2, .int (i2 p2)), (3, .int (i2 p3))]) (w : WS D aC ad A H0 M H locs) : W p l e rm_X10_word s m args below meth c H locs 0 0 Q (F0 m 0 ls []) := by
  have hx := X.1.1
  have hb := X.1.2.1
  unfold f_X10_word at hf
  refine lv_aload_n hx hb dX10_word_0 rfl (lv_at hl 0 rfl) ?_
  refine g_getr X w fg_X10_10 KD_0 FR_0_0 dX10_word_1 ?_
  refine lv_iload_n hx hb dX10_word_4 rfl (lv_at hl 1 rfl) ?_
  obtain ⟨r, hc, hf⟩ := obn_some hf
  refine g_cvi (As := [.int (i2 p1)]) (rest := []) X w (k_X1_has X.2.2.1 p1 hp1 w.2.2 hc) lk_X10_120 cl_1 KD_3 ⟨rfl, rfl⟩ ⟨nle rfl, nle rfl⟩ ⟨nle rfl, nle rfl⟩ hl.1 rfl (nle rfl) dX10_word_5 (fun hr H locs w => ?_)
  refine g_if_eq (tgt := 40) X hr dX10_word_8 (by decide) (fun cd => ?_) (fun cd => ?_)
  · replace hf := ite_t cd hf
    refine g_iconst X dX10_word_40 ?_
    exact HR 0 M _ _ _ _ (Option.some.inj hf).symm (Or.inl rfl) w dX10_word_41
  · replace hf := ite_f cd hf
    refine lv_aload_n hx hb dX10_word_11 rfl (lv_at hl 0 rfl) ?_
    refine g_getr X w fg_X10_78 KD_0 FR_0_9 dX10_word_12 ?_
    refine lv_iload_n hx hb dX10_word_15 rfl (lv_at hl 1 rfl) ?_
    obtain ⟨hg, hf⟩ := gd_some hf
    refine g_iald X w KD_1 hp1 hg dX10_word_16 ?_
    refine g_iconst X dX10_word_17 ?_
    refine g_icmp_eq (tgt := 40) X (w.2.2 _ _) (inL rfl) dX10_word_18 (by decide) (fun cd_2 => ?_) (fun cd_2 => ?_)
    · replace hf := ite_t cd_2 hf
      refine g_iconst X dX10_word_40 ?_
      exact HR 0 M _ _ _ _ (Option.some.inj hf).symm (Or.inl rfl) w dX10_word_41
    · replace hf := ite_f cd_2 hf
      refine lv_iload_n hx hb dX10_word_21 rfl (lv_at hl 2 rfl) ?_
      refine g_iconst X dX10_word_22 ?_
      refine g_bipush X dX10_word_23 (by decide) ?_
      obtain ⟨r_2, hc, hf⟩ := obn_some hf
      refine g_csi (As := [.int (i2 p2), .int (i2 0), .int (i2 10)]) (rest := []) X w (k_X10_within X.2.2.1 p2 hp2 0 (inL rfl) 10 (inL rfl) w.2.2 hc) lk_X10_105 ⟨rfl, rfl⟩ ⟨nle rfl, nle rfl⟩ ⟨nle rfl, nle rfl⟩ hl.1 rfl (nle rfl) dX10_word_25 (fun hr_2 H locs w => ?_)
      refine g_if_eq (tgt := 40) X hr_2 dX10_word_28 (by decide) (fun cd_3 => ?_) (fun cd_3 => ?_)
      · replace hf := ite_t cd_3 hf
        refine g_iconst X dX10_word_40 ?_
        exact HR 0 M _ _ _ _ (Option.some.inj hf).symm (Or.inl rfl) w dX10_word_41
      · replace hf := ite_f cd_3 hf
        refine lv_iload_n hx hb dX10_word_31 rfl (lv_at hl 3 rfl) ?_
        refine g_iconst X dX10_word_32 ?_
        refine g_iconst X dX10_word_33 ?_
        obtain ⟨r_3, hc, hf⟩ := obn_some hf
        refine g_csi (As := [.int (i2 p3), .int (i2 0), .int (i2 5)]) (rest := []) X w (k_X10_within X.2.2.1 p3 hp3 0 (inL rfl) 5 (inL rfl) w.2.2 hc) lk_X10_105 ⟨rfl, rfl⟩ ⟨nle rfl, nle rfl⟩ ⟨nle rfl, nle rfl⟩ hl.1 rfl (nle rfl) dX10_word_34 (fun hr_3 H locs w => ?_)
        refine g_if_ne (tgt := 42) X hr_3 dX10_word_37 (by decide) (fun cd_4 => ?_) (fun cd_4 => ?_)
        · replace hf := ite_f cd_4 hf
          refine lv_aload_n hx hb dX10_word_42 rfl (lv_at hl 0 rfl) ?_
          refine g_getr X w fg_X10_10 KD_0 FR_0_0 dX10_word_43 ?_
          refine g_getr X w fg_X10_319 KD_3 FR_3_11 dX10_word_46 ?_
          refine lv_iload_n hx hb dX10_word_49 rfl (lv_at hl 1 rfl) ?_
          refine lv_iload_n hx hb dX10_word_50 rfl (lv_at hl 2 rfl) ?_
          obtain ⟨hg_2, hf⟩ := gd_some hf
          obtain ⟨M_2, eM_2, hf⟩ := lt_some hf
          refine g_iast X w KD_14 hp1 hg_2 hp2 dX10_word_51 (fun H locs w_M_2 => ?_)
          rw [← eM_2] at w_M_2
          refine lv_aload_n hx hb dX10_word_52 rfl (lv_at hl 0 rfl) ?_
          refine g_getr X w_M_2 fg_X10_10 KD_0 FR_0_0 dX10_word_53 ?_
          refine g_getr X w_M_2 fg_X10_322 KD_3 FR_3_12 dX10_word_56 ?_
          refine lv_iload_n hx hb dX10_word_59 rfl (lv_at hl 1 rfl) ?_
          refine lv_iload_n hx hb dX10_word_60 rfl (lv_at hl 3 rfl) ?_
          obtain ⟨hg_3, hf⟩ := gd_some hf
          obtain ⟨M_3, eM_3, hf⟩ := lt_some hf
          refine g_iast X w_M_2 KD_15 hp1 hg_3 hp3 dX10_word_61 (fun H locs w_M_3 => ?_)
          rw [← eM_3] at w_M_3
          refine g_iconst X dX10_word_62 ?_
          exact HR 1 M_3 _ _ _ _ (Option.some.inj hf).symm (Or.inr rfl) w_M_3 dX10_word_63
        · replace hf := ite_t cd_4 hf
          refine g_iconst X dX10_word_40 ?_
          exact HR 0 M _ _ _ _ (Option.some.inj hf).symm (Or.inl rfl) w dX10_word_41
set_option maxRecDepth 100000 in
set_option maxHeartbeats 4000000 in
theorem k_X10_word {l : Launch} {D : va_G} {aC : Nat → ClassId} {ad : Nat → Nat} {sg : SG} (hi : Inj ad) (p1 : Int) (hp1 : inR p1) (p2 : Int) (hp2 : inR p2) (p3 : Int) (hp3 : inR p3) {M : Mem} (hM : inM M) {r : Int} {M' : Mem} (hf : f_X10_word p1 p2 p3 M = some (r, M')) : MetI l D aC ad sg yX10_word cX10_word 4 (some .boolean) rm_X10_word 0 0 [.ref (ad 0), .int (i2 p1), .int (i2 p2), .int (i2 p3)] M r M' := by
  refine MetI.ofZ (by decide +kernel) (nle rfl) hi hM (fun p e s m args below meth c Q H0 ls X hl w hret => ?_)
  exact b_X10_word_0 X  (fun r1 M1 H locs pc ls eo hP w dg => by cases eo; exact hret H locs pc ls hP w dg) p1 hp1 p2 hp2 p3 hp3 M hf hl w
set_option maxRecDepth 100000 in
set_option maxHeartbeats 4000000 in
theorem b_X10_partPairs_s17 (X : CX p s m args c cX10_partPairs 3 RX10 D aC ad sg A H0) (v1 : Int) (hv1 : inR v1) {o : (Int × Mem) ⊕ (Int × Mem)} (HC : ∀ (y2 : Int) (M1 : Mem) (H : Heap) (locs : List Loc) (ls : Array Slot), o = .inl (y2, M1) → inR y2 → lv_has ls 3 [(0, .ref (ad 0)), (1, .int (i2 v1)), (2, .int (i2 y2))] → WS D aC ad A H0 M1 H locs → W p l e rm_X10_partPairs s m args below meth c H locs 0 0 Q (F0 m 17 ls [])) (HE : ∀ (y2 : Int) (M1 : Mem) (H : Heap) (locs : List Loc) (ls : Array Slot), o = .inr (y2, M1) → inR y2 → lv_has ls 3 [(0, .ref (ad 0)), (1, .int (i2 v1)), (2, .int (i2 y2))] → WS D aC ad A H0 M1 H locs → W p l e rm_X10_partPairs s m args below meth c H locs 0 0 Q (F0 m 90 ls [])) (v2 : Int) (hv2 : inR v2) (M : Mem) (hf : f_X10_partPairs_s17 v1 v2 M = some o) {H : Heap} {locs : List Loc} {ls : Array Slot} (hl : lv_has ls 3 [(0, .ref (ad 0)), (1, .int (i2 v1)), (2, .int (i2 v2))]) (w : WS D aC ad A H0 M H locs) : W p l e rm_X10_partPairs s m args below meth c H locs 0 0 Q (F0 m 17 ls []) := by
  have hx := X.1.1
  have hb := X.1.2.1
  unfold f_X10_partPairs_s17 at hf
  refine lv_iload_n hx hb dX10_partPairs_17 rfl (lv_at hl 2 rfl) ?_
  refine lv_aload_n hx hb dX10_partPairs_18 rfl (lv_at hl 0 rfl) ?_
  refine g_getr X w fg_X10_10 KD_0 FR_0_0 dX10_partPairs_19 ?_
  refine g_geti X w fg_X10_194 KD_3 FR_3_0 dX10_partPairs_22 ?_
  refine g_icmp_ge (tgt := 90) X hv2 (w.2.2 _ _) dX10_partPairs_25 (by decide) (fun cd => ?_) (fun cd => ?_)
  · replace hf := ite_t cd hf
    exact HE v2 M _ _ _ (Option.some.inj hf).symm hv2 hl w
  · replace hf := ite_f cd hf
    refine lv_aload_n hx hb dX10_partPairs_28 rfl (lv_at hl 0 rfl) ?_
    refine g_getr X w fg_X10_78 KD_0 FR_0_9 dX10_partPairs_29 ?_
    refine lv_iload_n hx hb dX10_partPairs_32 rfl (lv_at hl 1 rfl) ?_
    obtain ⟨hg, hf⟩ := gd_some hf
    refine g_iald X w KD_1 hv1 hg dX10_partPairs_33 ?_
    refine g_iconst X dX10_partPairs_34 ?_
    refine g_icmp_eq (tgt := 84) X (w.2.2 _ _) (inL rfl) dX10_partPairs_35 (by decide) (fun cd_2 => ?_) (fun cd_2 => ?_)
    · replace hf := ite_t cd_2 hf
      obtain ⟨v2_2, ev2_2, hf⟩ := lt_some hf
      have hv2_2 : inR v2_2 := inR_of ev2_2 (inR_wrap _)
      refine lv_iinc (v := i2 v2_2) (lv' := [(2, .int (i2 v2_2)), (0, .ref (ad 0)), (1, .int (i2 v1))]) hx hb dX10_partPairs_84 hl (k := 2) rfl (by rw [ev2_2]; exact i2_add _ _) (by decide) rfl (fun ls hl => ?_)
      refine lv_goto (tgt := 17) hx hb dX10_partPairs_87 (by decide) ?_
      exact HC v2_2 M _ _ _ (Option.some.inj hf).symm hv2_2 (lv_sub hl [1, 2, 0] rfl) w
    · replace hf := ite_f cd_2 hf
      refine lv_aload_n hx hb dX10_partPairs_38 rfl (lv_at hl 0 rfl) ?_
      refine g_getr X w fg_X10_78 KD_0 FR_0_9 dX10_partPairs_39 ?_
      refine lv_iload_n hx hb dX10_partPairs_42 rfl (lv_at hl 1 rfl) ?_
      obtain ⟨hg_2, hf⟩ := gd_some hf
      refine g_iald X w KD_1 hv1 hg_2 dX10_partPairs_43 ?_
      refine lv_aload_n hx hb dX10_partPairs_44 rfl (lv_at hl 0 rfl) ?_
      refine g_getr X w fg_X10_78 KD_0 FR_0_9 dX10_partPairs_45 ?_
      refine lv_iload_n hx hb dX10_partPairs_48 rfl (lv_at hl 2 rfl) ?_
      obtain ⟨hg_3, hf⟩ := gd_some hf
      refine g_iald X w KD_1 hv2 hg_3 dX10_partPairs_49 ?_
      refine g_icmp_ne (tgt := 84) X (w.2.2 _ _) (w.2.2 _ _) dX10_partPairs_50 (by decide) (fun cd_3 => ?_) (fun cd_3 => ?_)
      · replace hf := ite_f cd_3 hf
        obtain ⟨v2_3, ev2_3, hf⟩ := lt_some hf
        have hv2_3 : inR v2_3 := inR_of ev2_3 (inR_wrap _)
        refine lv_iinc (v := i2 v2_3) (lv' := [(2, .int (i2 v2_3)), (0, .ref (ad 0)), (1, .int (i2 v1))]) hx hb dX10_partPairs_84 hl (k := 2) rfl (by rw [ev2_3]; exact i2_add _ _) (by decide) rfl (fun ls hl => ?_)
        refine lv_goto (tgt := 17) hx hb dX10_partPairs_87 (by decide) ?_
        exact HC v2_3 M _ _ _ (Option.some.inj hf).symm hv2_3 (lv_sub hl [1, 2, 0] rfl) w
      · replace hf := ite_t cd_3 hf
        refine lv_aload_n hx hb dX10_partPairs_53 rfl (lv_at hl 0 rfl) ?_
        refine g_getr X w fg_X10_10 KD_0 FR_0_0 dX10_partPairs_54 ?_
        refine lv_iload_n hx hb dX10_partPairs_57 rfl (lv_at hl 1 rfl) ?_
        obtain ⟨r, hc, hf⟩ := obn_some hf
        refine g_cvi (As := [.int (i2 v1)]) (rest := []) X w (k_X1_wentBadly X.2.2.1 v1 hv1 w.2.2 hc) lk_X10_389 cl_1 KD_3 ⟨rfl, rfl⟩ ⟨nle rfl, nle rfl⟩ ⟨nle rfl, nle rfl⟩ hl.1 rfl (nle rfl) dX10_partPairs_58 (fun hr H locs w => ?_)
        refine g_if_eq (tgt := 84) X hr dX10_partPairs_61 (by decide) (fun cd_4 => ?_) (fun cd_4 => ?_)
        · replace hf := ite_t cd_4 hf
          obtain ⟨v2_4, ev2_4, hf⟩ := lt_some hf
          have hv2_4 : inR v2_4 := inR_of ev2_4 (inR_wrap _)
          refine lv_iinc (v := i2 v2_4) (lv' := [(2, .int (i2 v2_4)), (0, .ref (ad 0)), (1, .int (i2 v1))]) hx hb dX10_partPairs_84 hl (k := 2) rfl (by rw [ev2_4]; exact i2_add _ _) (by decide) rfl (fun ls hl => ?_)
          refine lv_goto (tgt := 17) hx hb dX10_partPairs_87 (by decide) ?_
          exact HC v2_4 M _ _ _ (Option.some.inj hf).symm hv2_4 (lv_sub hl [1, 2, 0] rfl) w
        · replace hf := ite_f cd_4 hf
          refine lv_aload_n hx hb dX10_partPairs_64 rfl (lv_at hl 0 rfl) ?_
          refine g_getr X w fg_X10_10 KD_0 FR_0_0 dX10_partPairs_65 ?_
          refine lv_iload_n hx hb dX10_partPairs_68 rfl (lv_at hl 2 rfl) ?_
          obtain ⟨r_2, hc, hf⟩ := obn_some hf
          refine g_cvi (As := [.int (i2 v2)]) (rest := []) X w (k_X1_wentBadly X.2.2.1 v2 hv2 w.2.2 hc) lk_X10_389 cl_1 KD_3 ⟨rfl, rfl⟩ ⟨nle rfl, nle rfl⟩ ⟨nle rfl, nle rfl⟩ hl.1 rfl (nle rfl) dX10_partPairs_69 (fun hr_2 H locs w => ?_)
          refine g_if_eq (tgt := 84) X hr_2 dX10_partPairs_72 (by decide) (fun cd_5 => ?_) (fun cd_5 => ?_)
          · replace hf := ite_t cd_5 hf
            obtain ⟨v2_5, ev2_5, hf⟩ := lt_some hf
            have hv2_5 : inR v2_5 := inR_of ev2_5 (inR_wrap _)
            refine lv_iinc (v := i2 v2_5) (lv' := [(2, .int (i2 v2_5)), (0, .ref (ad 0)), (1, .int (i2 v1))]) hx hb dX10_partPairs_84 hl (k := 2) rfl (by rw [ev2_5]; exact i2_add _ _) (by decide) rfl (fun ls hl => ?_)
            refine lv_goto (tgt := 17) hx hb dX10_partPairs_87 (by decide) ?_
            exact HC v2_5 M _ _ _ (Option.some.inj hf).symm hv2_5 (lv_sub hl [1, 2, 0] rfl) w
          · replace hf := ite_f cd_5 hf
            refine lv_aload_n hx hb dX10_partPairs_75 rfl (lv_at hl 0 rfl) ?_
            refine g_getr X w fg_X10_10 KD_0 FR_0_0 dX10_partPairs_76 ?_
            refine lv_iload_n hx hb dX10_partPairs_79 rfl (lv_at hl 1 rfl) ?_
            refine lv_iload_n hx hb dX10_partPairs_80 rfl (lv_at hl 2 rfl) ?_
            obtain ⟨M_2, hc, hf⟩ := obn_some hf
            refine g_cvv (As := [.int (i2 v1), .int (i2 v2)]) (rest := []) X w (k_X1_addRegret X.2.2.1 v1 hv1 v2 hv2 w.2.2 hc) lk_X10_392 cl_1 KD_3 ⟨rfl, rfl⟩ ⟨nle rfl, nle rfl⟩ ⟨nle rfl, nle rfl⟩ hl.1 rfl (nle rfl) dX10_partPairs_81 (fun H locs w_M_2 => ?_)
            obtain ⟨v2_6, ev2_6, hf⟩ := lt_some hf
            have hv2_6 : inR v2_6 := inR_of ev2_6 (inR_wrap _)
            refine lv_iinc (v := i2 v2_6) (lv' := [(2, .int (i2 v2_6)), (0, .ref (ad 0)), (1, .int (i2 v1))]) hx hb dX10_partPairs_84 hl (k := 2) rfl (by rw [ev2_6]; exact i2_add _ _) (by decide) rfl (fun ls hl => ?_)
            refine lv_goto (tgt := 17) hx hb dX10_partPairs_87 (by decide) ?_
            exact HC v2_6 M_2 _ _ _ (Option.some.inj hf).symm hv2_6 (lv_sub hl [1, 2, 0] rfl) w_M_2
set_option maxRecDepth 100000 in
set_option maxHeartbeats 4000000 in
theorem l_X10_partPairs_17 (X : CX p s m args c cX10_partPairs 3 RX10 D aC ad sg A H0) (v1 : Int) (hv1 : inR v1) {out : Int × Mem} (HE : ∀ (y2 : Int) (M1 : Mem) (H : Heap) (locs : List Loc) (ls : Array Slot), out = (y2, M1) → inR y2 → lv_has ls 3 [(0, .ref (ad 0)), (1, .int (i2 v1)), (2, .int (i2 y2))] → WS D aC ad A H0 M1 H locs → W p l e rm_X10_partPairs s m args below meth c H locs 0 0 Q (F0 m 90 ls [])) : ∀ (n : Nat) (v2 : Int) (M : Mem), whl (fun s => f_X10_partPairs_s17 v1 s.1 s.2) n (v2, M) = some out → inR v2 → ∀ {H : Heap} {locs : List Loc} {ls : Array Slot}, lv_has ls 3 [(0, .ref (ad 0)), (1, .int (i2 v1)), (2, .int (i2 v2))] → WS D aC ad A H0 M H locs → W p l e rm_X10_partPairs s m args below meth c H locs 0 0 Q (F0 m 17 ls []) := by
  intro n
  induction n with
  | zero => intro v2 M hf; exact (whl_zero hf).elim
  | succ n ih =>
    intro v2 M hf hv2 H locs ls hl w
    obtain ⟨o, hf, hk1, hk2⟩ := whl_step hf
    exact b_X10_partPairs_s17 X v1 hv1 (fun y2 M1 H locs ls eo hy2 hl w => ih y2 M1 (hk1 _ eo) hy2 hl w) (fun y2 M1 H locs ls eo hy2 hl w => HE y2 M1 H locs ls (hk2 _ eo).symm hy2 hl w) v2 hv2 M hf hl w
set_option maxRecDepth 100000 in
set_option maxHeartbeats 4000000 in
theorem b_X10_partPairs_j90k2 (X : CX p s m args c cX10_partPairs 3 RX10 D aC ad sg A H0) {o : (Int × Mem) ⊕ (Int × Mem)} (HC : ∀ (y1 : Int) (M1 : Mem) (H : Heap) (locs : List Loc) (ls : Array Slot), o = .inl (y1, M1) → inR y1 → lv_has ls 3 [(0, .ref (ad 0)), (1, .int (i2 y1))] → WS D aC ad A H0 M1 H locs → W p l e rm_X10_partPairs s m args below meth c H locs 0 0 Q (F0 m 2 ls [])) (HE : ∀ (y1 : Int) (M1 : Mem) (H : Heap) (locs : List Loc) (ls : Array Slot), o = .inr (y1, M1) → inR y1 → lv_has ls 3 [(0, .ref (ad 0)), (1, .int (i2 y1))] → WS D aC ad A H0 M1 H locs → W p l e rm_X10_partPairs s m args below meth c H locs 0 0 Q (F0 m 96 ls [])) (v1 : Int) (hv1 : inR v1) (M : Mem) (hf : f_X10_partPairs_j90k2 v1 M = some o) {H : Heap} {locs : List Loc} {ls : Array Slot} (hl : lv_has ls 3 [(0, .ref (ad 0)), (1, .int (i2 v1))]) (w : WS D aC ad A H0 M H locs) : W p l e rm_X10_partPairs s m args below meth c H locs 0 0 Q (F0 m 90 ls []) := by
  have hx := X.1.1
  have hb := X.1.2.1
  unfold f_X10_partPairs_j90k2 at hf
  obtain ⟨v1_2, ev1_2, hf⟩ := lt_some hf
  have hv1_2 : inR v1_2 := inR_of ev1_2 (inR_wrap _)
  refine lv_iinc (v := i2 v1_2) (lv' := [(1, .int (i2 v1_2)), (0, .ref (ad 0))]) hx hb dX10_partPairs_90 hl (k := 1) rfl (by rw [ev1_2]; exact i2_add _ _) (by decide) rfl (fun ls hl => ?_)
  refine lv_goto (tgt := 2) hx hb dX10_partPairs_93 (by decide) ?_
  exact HC v1_2 M _ _ _ (Option.some.inj hf).symm hv1_2 (lv_sub hl [1, 0] rfl) w
set_option maxRecDepth 100000 in
set_option maxHeartbeats 4000000 in
theorem b_X10_partPairs_s2 (X : CX p s m args c cX10_partPairs 3 RX10 D aC ad sg A H0) {o : (Int × Mem) ⊕ (Int × Mem)} (HC : ∀ (y1 : Int) (M1 : Mem) (H : Heap) (locs : List Loc) (ls : Array Slot), o = .inl (y1, M1) → inR y1 → lv_has ls 3 [(0, .ref (ad 0)), (1, .int (i2 y1))] → WS D aC ad A H0 M1 H locs → W p l e rm_X10_partPairs s m args below meth c H locs 0 0 Q (F0 m 2 ls [])) (HE : ∀ (y1 : Int) (M1 : Mem) (H : Heap) (locs : List Loc) (ls : Array Slot), o = .inr (y1, M1) → inR y1 → lv_has ls 3 [(0, .ref (ad 0)), (1, .int (i2 y1))] → WS D aC ad A H0 M1 H locs → W p l e rm_X10_partPairs s m args below meth c H locs 0 0 Q (F0 m 96 ls [])) (v1 : Int) (hv1 : inR v1) (M : Mem) (hf : f_X10_partPairs_s2 v1 M = some o) {H : Heap} {locs : List Loc} {ls : Array Slot} (hl : lv_has ls 3 [(0, .ref (ad 0)), (1, .int (i2 v1))]) (w : WS D aC ad A H0 M H locs) : W p l e rm_X10_partPairs s m args below meth c H locs 0 0 Q (F0 m 2 ls []) := by
  have hx := X.1.1
  have hb := X.1.2.1
  unfold f_X10_partPairs_s2 at hf
  refine lv_iload_n hx hb dX10_partPairs_2 rfl (lv_at hl 1 rfl) ?_
  refine lv_aload_n hx hb dX10_partPairs_3 rfl (lv_at hl 0 rfl) ?_
  refine g_getr X w fg_X10_10 KD_0 FR_0_0 dX10_partPairs_4 ?_
  refine g_geti X w fg_X10_194 KD_3 FR_3_0 dX10_partPairs_7 ?_
  refine g_icmp_ge (tgt := 96) X hv1 (w.2.2 _ _) dX10_partPairs_10 (by decide) (fun cd => ?_) (fun cd => ?_)
  · replace hf := ite_t cd hf
    exact HE v1 M _ _ _ (Option.some.inj hf).symm hv1 hl w
  · replace hf := ite_f cd hf
    refine lv_iload_n hx hb dX10_partPairs_13 rfl (lv_at hl 1 rfl) ?_
    refine g_iconst X dX10_partPairs_14 ?_
    refine g_iadd X dX10_partPairs_15 ?_
    obtain ⟨v2, ev2, hf⟩ := lt_some hf
    have hv2 : inR v2 := inR_of ev2 (inR_wrap _)
    refine g_istn (v := v2) (lv' := [(2, .int (i2 v2)), (0, .ref (ad 0)), (1, .int (i2 v1))]) X ev2 dX10_partPairs_16 rfl hl (by decide) rfl (fun ls hl => ?_)
    obtain ⟨q, hq, h1⟩ := obn_some hf
    exact l_X10_partPairs_17 X v1 hv1 (out := q) (fun y2 M1 H locs ls eq hy2 hl w => b_X10_partPairs_j90k2 X  HC HE v1 hv1 M1 (by subst eq; exact h1) (lv_sub hl [0, 1] rfl) w)  FU v2 M hq hv2 (lv_sub hl [1, 2, 0] rfl) w
set_option maxRecDepth 100000 in
set_option maxHeartbeats 4000000 in
theorem l_X10_partPairs_2 (X : CX p s m args c cX10_partPairs 3 RX10 D aC ad sg A H0) {out : Int × Mem} (HE : ∀ (y1 : Int) (M1 : Mem) (H : Heap) (locs : List Loc) (ls : Array Slot), out = (y1, M1) → inR y1 → lv_has ls 3 [(0, .ref (ad 0)), (1, .int (i2 y1))] → WS D aC ad A H0 M1 H locs → W p l e rm_X10_partPairs s m args below meth c H locs 0 0 Q (F0 m 96 ls [])) : ∀ (n : Nat) (v1 : Int) (M : Mem), whl (fun s => f_X10_partPairs_s2 s.1 s.2) n (v1, M) = some out → inR v1 → ∀ {H : Heap} {locs : List Loc} {ls : Array Slot}, lv_has ls 3 [(0, .ref (ad 0)), (1, .int (i2 v1))] → WS D aC ad A H0 M H locs → W p l e rm_X10_partPairs s m args below meth c H locs 0 0 Q (F0 m 2 ls []) := by
  intro n
  induction n with
  | zero => intro v1 M hf; exact (whl_zero hf).elim
  | succ n ih =>
    intro v1 M hf hv1 H locs ls hl w
    obtain ⟨o, hf, hk1, hk2⟩ := whl_step hf
    exact b_X10_partPairs_s2 X  (fun y1 M1 H locs ls eo hy1 hl w => ih y1 M1 (hk1 _ eo) hy1 hl w) (fun y1 M1 H locs ls eo hy1 hl w => HE y1 M1 H locs ls (hk2 _ eo).symm hy1 hl w) v1 hv1 M hf hl w
set_option maxRecDepth 100000 in
set_option maxHeartbeats 4000000 in
theorem b_X10_partPairs_j96 (X : CX p s m args c cX10_partPairs 3 RX10 D aC ad sg A H0) {o : Mem} (HR : ∀ (M1 : Mem) (H : Heap) (locs : List Loc) (pc : Nat) (ls : Array Slot), o = M1 → WS D aC ad A H0 M1 H locs → decode cX10_partPairs pc = .ok (.return_, 1) → W p l e rm_X10_partPairs s m args below meth c H locs 0 0 Q (F0 m pc ls [])) (M : Mem) (hf : f_X10_partPairs_j96 M = some o) {H : Heap} {locs : List Loc} {ls : Array Slot} (hl : lv_has ls 3 []) (w : WS D aC ad A H0 M H locs) : W p l e rm_X10_partPairs s m args below meth c H locs 0 0 Q (F0 m 96 ls []) := by
  have hx := X.1.1
  have hb := X.1.2.1
  unfold f_X10_partPairs_j96 at hf
  exact HR M _ _ _ _ (Option.some.inj hf).symm w dX10_partPairs_96
set_option maxRecDepth 100000 in
set_option maxHeartbeats 4000000 in
theorem b_X10_partPairs_0 (X : CX p s m args c cX10_partPairs 3 RX10 D aC ad sg A H0) {o : Mem} (HR : ∀ (M1 : Mem) (H : Heap) (locs : List Loc) (pc : Nat) (ls : Array Slot), o = M1 → WS D aC ad A H0 M1 H locs → decode cX10_partPairs pc = .ok (.return_, 1) → W p l e rm_X10_partPairs s m args below meth c H locs 0 0 Q (F0 m pc ls [])) (M : Mem) (hf : f_X10_partPairs M = some o) {H : Heap} {locs : List Loc} {ls : Array Slot} (hl : lv_has ls 3 [(0, .ref (ad 0))]) (w : WS D aC ad A H0 M H locs) : W p l e rm_X10_partPairs s m args below meth c H locs 0 0 Q (F0 m 0 ls []) := by
  have hx := X.1.1
  have hb := X.1.2.1
  unfold f_X10_partPairs at hf
  refine g_iconst X dX10_partPairs_0 ?_
  refine g_istn (v := 0) (lv' := [(1, .int (i2 0)), (0, .ref (ad 0))]) X rfl dX10_partPairs_1 rfl hl (by decide) rfl (fun ls hl => ?_)
  obtain ⟨q, hq, h1⟩ := obn_some hf
  exact l_X10_partPairs_2 X  (out := q) (fun y1 M1 H locs ls eq hy1 hl w => b_X10_partPairs_j96 X  HR M1 (by subst eq; exact h1) (lv_sub hl [] rfl) w)  FU 0 M hq (inL rfl) (lv_sub hl [1, 0] rfl) w
set_option maxRecDepth 100000 in
set_option maxHeartbeats 4000000 in
theorem k_X10_partPairs {l : Launch} {D : va_G} {aC : Nat → ClassId} {ad : Nat → Nat} {sg : SG} (hi : Inj ad)  {M : Mem} (hM : inM M) {M' : Mem} (hf : f_X10_partPairs M = some M') : MetV l D aC ad sg yX10_partPairs cX10_partPairs 3 rm_X10_partPairs 0 0 [.ref (ad 0)] M M' := by
  refine MetV.of (by decide +kernel) (nle rfl) hi hM (fun p e s m args below meth c Q H0 ls X hl w hret => ?_)
  exact b_X10_partPairs_0 X  (fun M1 H locs pc ls eo w dg => by cases eo; exact hret H locs pc ls w dg) M hf hl w
set_option maxRecDepth 100000 in
set_option maxHeartbeats 4000000 in
theorem b_X10_settle_s4 (X : CX p s m args c cX10_settle 4 RX10 D aC ad sg A H0) {o : (Int × Int × Mem) ⊕ (Int × Int × Mem)} (HC : ∀ (y1 : Int) (y2 : Int) (M1 : Mem) (H : Heap) (locs : List Loc) (ls : Array Slot), o = .inl (y1, y2, M1) → inR y1 → inR y2 → lv_has ls 4 [(0, .ref (ad 0)), (1, .int (i2 y1)), (2, .int (i2 y2))] → WS D aC ad A H0 M1 H locs → W p l e rm_X10_settle s m args below meth c H locs 0 0 Q (F0 m 4 ls [])) (HE : ∀ (y1 : Int) (y2 : Int) (M1 : Mem) (H : Heap) (locs : List Loc) (ls : Array Slot), o = .inr (y1, y2, M1) → inR y1 → inR y2 → lv_has ls 4 [(0, .ref (ad 0)), (1, .int (i2 y1)), (2, .int (i2 y2))] → WS D aC ad A H0 M1 H locs → W p l e rm_X10_settle s m args below meth c H locs 0 0 Q (F0 m 95 ls [])) (v1 : Int) (hv1 : inR v1) (v2 : Int) (hv2 : inR v2) (M : Mem) (hf : f_X10_settle_s4 v1 v2 M = some o) {H : Heap} {locs : List Loc} {ls : Array Slot} (hl : lv_has ls 4 [(0, .ref (ad 0)), (1, .int (i2 v1)), (2, .int (i2 v2))]) (w : WS D aC ad A H0 M H locs) : W p l e rm_X10_settle s m args below meth c H locs 0 0 Q (F0 m 4 ls []) := by
  have hx := X.1.1
  have hb := X.1.2.1
  unfold f_X10_settle_s4 at hf
  refine lv_iload_n hx hb dX10_settle_4 rfl (lv_at hl 2 rfl) ?_
  refine lv_aload_n hx hb dX10_settle_5 rfl (lv_at hl 0 rfl) ?_
  refine g_getr X w fg_X10_10 KD_0 FR_0_0 dX10_settle_6 ?_
  refine g_geti X w fg_X10_194 KD_3 FR_3_0 dX10_settle_9 ?_
  refine g_icmp_ge (tgt := 95) X hv2 (w.2.2 _ _) dX10_settle_12 (by decide) (fun cd => ?_) (fun cd => ?_)
  · replace hf := ite_t cd hf
    exact HE v1 v2 M _ _ _ (Option.some.inj hf).symm hv1 hv2 hl w
  · replace hf := ite_f cd hf
    refine lv_aload_n hx hb dX10_settle_15 rfl (lv_at hl 0 rfl) ?_
    refine g_getr X w fg_X10_78 KD_0 FR_0_9 dX10_settle_16 ?_
    refine lv_iload_n hx hb dX10_settle_19 rfl (lv_at hl 2 rfl) ?_
    obtain ⟨hg, hf⟩ := gd_some hf
    refine g_iald X w KD_1 hv2 hg dX10_settle_20 ?_
    obtain ⟨v3, ev3, hf⟩ := lt_some hf
    have hv3 : inR v3 := inR_of ev3 (w.2.2 _ _)
    refine g_istn (v := v3) (lv' := [(3, .int (i2 v3)), (0, .ref (ad 0)), (1, .int (i2 v1)), (2, .int (i2 v2))]) X ev3 dX10_settle_21 rfl hl (by decide) rfl (fun ls hl => ?_)
    refine lv_iload_n hx hb dX10_settle_22 rfl (lv_at hl 0 rfl) ?_
    refine g_iconst X dX10_settle_23 ?_
    refine g_icmp_ne (tgt := 30) X hv3 (inL rfl) dX10_settle_24 (by decide) (fun cd_2 => ?_) (fun cd_2 => ?_)
    · replace hf := ite_f cd_2 hf
      refine lv_aload_n hx hb dX10_settle_30 rfl (lv_at hl 1 rfl) ?_
      refine g_getr X w fg_X10_10 KD_0 FR_0_0 dX10_settle_31 ?_
      refine lv_iload_n hx hb dX10_settle_34 rfl (lv_at hl 3 rfl) ?_
      refine lv_aload_n hx hb dX10_settle_35 rfl (lv_at hl 1 rfl) ?_
      refine g_getr X w fg_X10_88 KD_0 FR_0_10 dX10_settle_36 ?_
      refine lv_iload_n hx hb dX10_settle_39 rfl (lv_at hl 0 rfl) ?_
      obtain ⟨hg_2, hf⟩ := gd_some hf
      refine g_iald X w KD_2 hv3 hg_2 dX10_settle_40 ?_
      obtain ⟨r, hc, hf⟩ := obn_some hf
      refine g_cvi (As := [.int (i2 v2), .int (i2 (M 2 v3.toNat))]) (rest := []) X w (k_X1_bestWish X.2.2.1 v2 hv2 (M 2 v3.toNat) (w.2.2 _ _) w.2.2 hc) lk_X10_262 cl_1 KD_3 ⟨rfl, rfl⟩ ⟨nle rfl, nle rfl⟩ ⟨nle rfl, nle rfl⟩ hl.1 rfl (nle rfl) dX10_settle_41 (fun hr H locs w => ?_)
      refine g_iconst X dX10_settle_44 ?_
      refine g_icmp_ne (tgt := 79) X hr (inL rfl) dX10_settle_45 (by decide) (fun cd_3 => ?_) (fun cd_3 => ?_)
      · replace hf := ite_f cd_3 hf
        refine lv_aload_n hx hb dX10_settle_79 rfl (lv_at hl 1 rfl) ?_
        refine g_getr X w fg_X10_10 KD_0 FR_0_0 dX10_settle_80 ?_
        refine g_getr X w fg_X10_355 KD_3 FR_3_5 dX10_settle_83 ?_
        refine lv_iload_n hx hb dX10_settle_86 rfl (lv_at hl 3 rfl) ?_
        refine g_iconst X dX10_settle_87 ?_
        obtain ⟨hg_3, hf⟩ := gd_some hf
        obtain ⟨M_2, eM_2, hf⟩ := lt_some hf
        refine g_iast X w KD_8 hv2 hg_3 (inL rfl) dX10_settle_88 (fun H locs w_M_2 => ?_)
        rw [← eM_2] at w_M_2
        obtain ⟨v2_2, ev2_2, hf⟩ := lt_some hf
        have hv2_2 : inR v2_2 := inR_of ev2_2 (inR_wrap _)
        refine lv_iinc (v := i2 v2_2) (lv' := [(2, .int (i2 v2_2)), (3, .int (i2 v3)), (0, .ref (ad 0)), (1, .int (i2 v1))]) hx hb dX10_settle_89 hl (k := 3) rfl (by rw [ev2_2]; exact i2_add _ _) (by decide) rfl (fun ls hl => ?_)
        refine lv_goto (tgt := 4) hx hb dX10_settle_92 (by decide) ?_
        exact HC v1 v2_2 M_2 _ _ _ (Option.some.inj hf).symm hv1 hv2_2 (lv_sub hl [2, 3, 0] rfl) w_M_2
      · replace hf := ite_t cd_3 hf
        refine lv_aload_n hx hb dX10_settle_48 rfl (lv_at hl 1 rfl) ?_
        refine g_getr X w fg_X10_10 KD_0 FR_0_0 dX10_settle_49 ?_
        refine g_getr X w fg_X10_355 KD_3 FR_3_5 dX10_settle_52 ?_
        refine lv_iload_n hx hb dX10_settle_55 rfl (lv_at hl 3 rfl) ?_
        refine lv_aload_n hx hb dX10_settle_56 rfl (lv_at hl 1 rfl) ?_
        refine g_getr X w fg_X10_10 KD_0 FR_0_0 dX10_settle_57 ?_
        refine g_getr X w fg_X10_355 KD_3 FR_3_5 dX10_settle_60 ?_
        refine lv_iload_n hx hb dX10_settle_63 rfl (lv_at hl 3 rfl) ?_
        obtain ⟨hg_4, hf⟩ := gd_some hf
        refine g_iald X w KD_8 hv2 hg_4 dX10_settle_64 ?_
        refine g_iconst X dX10_settle_65 ?_
        refine g_iadd X dX10_settle_66 ?_
        refine g_bipush X dX10_settle_67 (by decide) ?_
        refine g_min X (inR_wrap _) (inL rfl) hl.1 mw_X10_395 ⟨nle rfl, nle rfl⟩ (nle rfl) (nle rfl) (nle rfl) dX10_settle_69 ?_
        obtain ⟨hg_5, hf⟩ := gd_some hf
        obtain ⟨M_3, eM_3, hf⟩ := lt_some hf
        refine g_iast X w KD_8 hv2 hg_5 (inR_ite (inL rfl) (inR_wrap _)) dX10_settle_72 (fun H locs w_M_3 => ?_)
        rw [← eM_3] at w_M_3
        obtain ⟨v1_2, ev1_2, hf⟩ := lt_some hf
        have hv1_2 : inR v1_2 := inR_of ev1_2 (inR_wrap _)
        refine lv_iinc (v := i2 v1_2) (lv' := [(1, .int (i2 v1_2)), (3, .int (i2 v3)), (0, .ref (ad 0)), (2, .int (i2 v2))]) hx hb dX10_settle_73 hl (k := 2) rfl (by rw [ev1_2]; exact i2_add _ _) (by decide) rfl (fun ls hl => ?_)
        refine lv_goto (tgt := 89) hx hb dX10_settle_76 (by decide) ?_
        obtain ⟨v2_3, ev2_3, hf⟩ := lt_some hf
        have hv2_3 : inR v2_3 := inR_of ev2_3 (inR_wrap _)
        refine lv_iinc (v := i2 v2_3) (lv' := [(2, .int (i2 v2_3)), (1, .int (i2 v1_2)), (3, .int (i2 v3)), (0, .ref (ad 0))]) hx hb dX10_settle_89 hl (k := 3) rfl (by rw [ev2_3]; exact i2_add _ _) (by decide) rfl (fun ls hl => ?_)
        refine lv_goto (tgt := 4) hx hb dX10_settle_92 (by decide) ?_
        exact HC v1_2 v2_3 M_3 _ _ _ (Option.some.inj hf).symm hv1_2 hv2_3 (lv_sub hl [3, 1, 0] rfl) w_M_3
    · replace hf := ite_t cd_2 hf
      refine lv_goto (tgt := 89) hx hb dX10_settle_27 (by decide) ?_
      obtain ⟨v2_4, ev2_4, hf⟩ := lt_some hf
      have hv2_4 : inR v2_4 := inR_of ev2_4 (inR_wrap _)
      refine lv_iinc (v := i2 v2_4) (lv' := [(2, .int (i2 v2_4)), (3, .int (i2 v3)), (0, .ref (ad 0)), (1, .int (i2 v1))]) hx hb dX10_settle_89 hl (k := 3) rfl (by rw [ev2_4]; exact i2_add _ _) (by decide) rfl (fun ls hl => ?_)
      refine lv_goto (tgt := 4) hx hb dX10_settle_92 (by decide) ?_
      exact HC v1 v2_4 M _ _ _ (Option.some.inj hf).symm hv1 hv2_4 (lv_sub hl [2, 3, 0] rfl) w
set_option maxRecDepth 100000 in
set_option maxHeartbeats 4000000 in
theorem l_X10_settle_4 (X : CX p s m args c cX10_settle 4 RX10 D aC ad sg A H0) {out : Int × Int × Mem} (HE : ∀ (y1 : Int) (y2 : Int) (M1 : Mem) (H : Heap) (locs : List Loc) (ls : Array Slot), out = (y1, y2, M1) → inR y1 → inR y2 → lv_has ls 4 [(0, .ref (ad 0)), (1, .int (i2 y1)), (2, .int (i2 y2))] → WS D aC ad A H0 M1 H locs → W p l e rm_X10_settle s m args below meth c H locs 0 0 Q (F0 m 95 ls [])) : ∀ (n : Nat) (v1 : Int) (v2 : Int) (M : Mem), whl (fun s => f_X10_settle_s4 s.1 s.2.1 s.2.2) n (v1, v2, M) = some out → inR v1 → inR v2 → ∀ {H : Heap} {locs : List Loc} {ls : Array Slot}, lv_has ls 4 [(0, .ref (ad 0)), (1, .int (i2 v1)), (2, .int (i2 v2))] → WS D aC ad A H0 M H locs → W p l e rm_X10_settle s m args below meth c H locs 0 0 Q (F0 m 4 ls []) := by
  intro n
  induction n with
  | zero => intro v1 v2 M hf; exact (whl_zero hf).elim
  | succ n ih =>
    intro v1 v2 M hf hv1 hv2 H locs ls hl w
    obtain ⟨o, hf, hk1, hk2⟩ := whl_step hf
    exact b_X10_settle_s4 X  (fun y1 y2 M1 H locs ls eo hy1 hy2 hl w => ih y1 y2 M1 (hk1 _ eo) hy1 hy2 hl w) (fun y1 y2 M1 H locs ls eo hy1 hy2 hl w => HE y1 y2 M1 H locs ls (hk2 _ eo).symm hy1 hy2 hl w) v1 hv1 v2 hv2 M hf hl w
set_option maxRecDepth 100000 in
set_option maxHeartbeats 4000000 in
theorem b_X10_settle_j95 (X : CX p s m args c cX10_settle 4 RX10 D aC ad sg A H0) {o : Int × Mem} (HR : ∀ (r : Int) (M1 : Mem) (H : Heap) (locs : List Loc) (pc : Nat) (ls : Array Slot), o = (r, M1) → inR r → WS D aC ad A H0 M1 H locs → decode cX10_settle pc = .ok (.ireturn, 1) → W p l e rm_X10_settle s m args below meth c H locs 0 0 Q (F0 m pc ls [.int (i2 r)])) (v1 : Int) (hv1 : inR v1) (M : Mem) (hf : f_X10_settle_j95 v1 M = some o) {H : Heap} {locs : List Loc} {ls : Array Slot} (hl : lv_has ls 4 [(1, .int (i2 v1))]) (w : WS D aC ad A H0 M H locs) : W p l e rm_X10_settle s m args below meth c H locs 0 0 Q (F0 m 95 ls []) := by
  have hx := X.1.1
  have hb := X.1.2.1
  unfold f_X10_settle_j95 at hf
  refine lv_iload_n hx hb dX10_settle_95 rfl (lv_at hl 0 rfl) ?_
  exact HR v1 M _ _ _ _ (Option.some.inj hf).symm hv1 w dX10_settle_96
set_option maxRecDepth 100000 in
set_option maxHeartbeats 4000000 in
theorem b_X10_settle_0 (X : CX p s m args c cX10_settle 4 RX10 D aC ad sg A H0) {o : Int × Mem} (HR : ∀ (r : Int) (M1 : Mem) (H : Heap) (locs : List Loc) (pc : Nat) (ls : Array Slot), o = (r, M1) → inR r → WS D aC ad A H0 M1 H locs → decode cX10_settle pc = .ok (.ireturn, 1) → W p l e rm_X10_settle s m args below meth c H locs 0 0 Q (F0 m pc ls [.int (i2 r)])) (M : Mem) (hf : f_X10_settle M = some o) {H : Heap} {locs : List Loc} {ls : Array Slot} (hl : lv_has ls 4 [(0, .ref (ad 0))]) (w : WS D aC ad A H0 M H locs) : W p l e rm_X10_settle s m args below meth c H locs 0 0 Q (F0 m 0 ls []) := by
  have hx := X.1.1
  have hb := X.1.2.1
  unfold f_X10_settle at hf
  refine g_iconst X dX10_settle_0 ?_
  refine g_istn (v := 0) (lv' := [(1, .int (i2 0)), (0, .ref (ad 0))]) X rfl dX10_settle_1 rfl hl (by decide) rfl (fun ls hl => ?_)
  refine g_iconst X dX10_settle_2 ?_
  refine g_istn (v := 0) (lv' := [(2, .int (i2 0)), (1, .int (i2 0)), (0, .ref (ad 0))]) X rfl dX10_settle_3 rfl hl (by decide) rfl (fun ls hl => ?_)
  obtain ⟨q, hq, h1⟩ := obn_some hf
  exact l_X10_settle_4 X  (out := q) (fun y1 y2 M1 H locs ls eq hy1 hy2 hl w => b_X10_settle_j95 X  HR y1 hy1 M1 (by subst eq; exact h1) (lv_sub hl [1] rfl) w)  FU 0 0 M hq (inL rfl) (inL rfl) (lv_sub hl [2, 1, 0] rfl) w
set_option maxRecDepth 100000 in
set_option maxHeartbeats 4000000 in
theorem k_X10_settle {l : Launch} {D : va_G} {aC : Nat → ClassId} {ad : Nat → Nat} {sg : SG} (hi : Inj ad)  {M : Mem} (hM : inM M) {r : Int} {M' : Mem} (hf : f_X10_settle M = some (r, M')) : MetI l D aC ad sg yX10_settle cX10_settle 4 (some .int) rm_X10_settle 0 0 [.ref (ad 0)] M r M' := by
  refine MetI.ofI (by decide +kernel) (nle rfl) hi hM (fun p e s m args below meth c Q H0 ls X hl w hret => ?_)
  exact b_X10_settle_0 X  (fun r1 M1 H locs pc ls eo hP w dg => by cases eo; exact hret H locs pc ls hP w dg) M hf hl w
set_option maxRecDepth 100000 in
set_option maxHeartbeats 4000000 in
theorem b_X10_close_0 (X : CX p s m args c cX10_close 2 RX10 D aC ad sg A H0) {o : Int × Mem} (HR : ∀ (r : Int) (M1 : Mem) (H : Heap) (locs : List Loc) (pc : Nat) (ls : Array Slot), o = (r, M1) → inR r → WS D aC ad A H0 M1 H locs → decode cX10_close pc = .ok (.ireturn, 1) → W p l e rm_X10_close s m args below meth c H locs 0 0 Q (F0 m pc ls [.int (i2 r)])) (M : Mem) (hf : f_X10_close M = some o) {H : Heap} {locs : List Loc} {ls : Array Slot} (hl : lv_has ls 2 [(0, .ref (ad 0))]) (w : WS D aC ad A H0 M H locs) : W p l e rm_X10_close s m args below meth c H locs 0 0 Q (F0 m 0 ls []) := by
  have hx := X.1.1
  have hb := X.1.2.1
  unfold f_X10_close at hf
  refine lv_aload_n hx hb dX10_close_0 rfl (lv_at hl 0 rfl) ?_
  obtain ⟨r, hc, hf⟩ := obn_some hf
  refine g_cvi (As := []) (rest := []) X w (k_X10_countListed X.2.2.1  w.2.2 hc) lk_X10_239 cl_10 KD_0 ⟨rfl, rfl⟩ ⟨nle rfl, nle rfl⟩ ⟨nle rfl, nle rfl⟩ hl.1 rfl (nle rfl) dX10_close_1 (fun hr H locs w => ?_)
  refine g_if_ne (tgt := 9) X hr dX10_close_4 (by decide) (fun cd => ?_) (fun cd => ?_)
  · replace hf := ite_f cd hf
    refine lv_aload_n hx hb dX10_close_9 rfl (lv_at hl 0 rfl) ?_
    obtain ⟨M_2, hc, hf⟩ := obn_some hf
    refine g_cvv (As := []) (rest := []) X w (k_X10_gatherList X.2.2.1  w.2.2 hc) lk_X10_228 cl_10 KD_0 ⟨rfl, rfl⟩ ⟨nle rfl, nle rfl⟩ ⟨nle rfl, nle rfl⟩ hl.1 rfl (nle rfl) dX10_close_10 (fun H locs w_M_2 => ?_)
    refine lv_aload_n hx hb dX10_close_13 rfl (lv_at hl 0 rfl) ?_
    obtain ⟨M_3, hc, hf⟩ := obn_some hf
    refine g_cvv (As := []) (rest := []) X w_M_2 (k_X10_partPairs X.2.2.1  w_M_2.2.2 hc) lk_X10_325 cl_10 KD_0 ⟨rfl, rfl⟩ ⟨nle rfl, nle rfl⟩ ⟨nle rfl, nle rfl⟩ hl.1 rfl (nle rfl) dX10_close_14 (fun H locs w_M_3 => ?_)
    refine lv_aload_n hx hb dX10_close_17 rfl (lv_at hl 0 rfl) ?_
    obtain ⟨r_2, M_4, hc, hf⟩ := bnd_some hf
    refine g_cvi (As := []) (rest := []) X w_M_3 (k_X10_settle X.2.2.1  w_M_3.2.2 hc) lk_X10_328 cl_10 KD_0 ⟨rfl, rfl⟩ ⟨nle rfl, nle rfl⟩ ⟨nle rfl, nle rfl⟩ hl.1 rfl (nle rfl) dX10_close_18 (fun hr_2 H locs w_M_4 => ?_)
    refine g_istn (v := r_2) (lv' := [(1, .int (i2 r_2)), (0, .ref (ad 0))]) X rfl dX10_close_21 rfl hl (by decide) rfl (fun ls hl => ?_)
    refine lv_aload_n hx hb dX10_close_22 rfl (lv_at hl 1 rfl) ?_
    refine g_getr X w_M_4 fg_X10_10 KD_0 FR_0_0 dX10_close_23 ?_
    refine g_getr X w_M_4 fg_X10_319 KD_3 FR_3_11 dX10_close_26 ?_
    refine g_iconst X dX10_close_29 ?_
    obtain ⟨M_5, hc, hf⟩ := obn_some hf
    refine g_csv (As := [.ref (ad 14), .int (i2 (-1))]) (rest := []) X w_M_4 (k_J7_fill_53178 X.2.2.1 14 KA_14 (-1) (inL rfl) w_M_4.2.2 hc) lk_X10_82 ⟨rfl, rfl⟩ ⟨nle rfl, nle rfl⟩ ⟨nle rfl, nle rfl⟩ hl.1 rfl (nle rfl) dX10_close_30 (fun H locs w_M_5 => ?_)
    refine lv_aload_n hx hb dX10_close_33 rfl (lv_at hl 1 rfl) ?_
    refine g_getr X w_M_5 fg_X10_10 KD_0 FR_0_0 dX10_close_34 ?_
    refine g_getr X w_M_5 fg_X10_322 KD_3 FR_3_12 dX10_close_37 ?_
    refine g_iconst X dX10_close_40 ?_
    obtain ⟨M_6, hc, hf⟩ := obn_some hf
    refine g_csv (As := [.ref (ad 15), .int (i2 (-1))]) (rest := []) X w_M_5 (k_J7_fill_53178 X.2.2.1 15 KA_15 (-1) (inL rfl) w_M_5.2.2 hc) lk_X10_82 ⟨rfl, rfl⟩ ⟨nle rfl, nle rfl⟩ ⟨nle rfl, nle rfl⟩ hl.1 rfl (nle rfl) dX10_close_41 (fun H locs w_M_6 => ?_)
    refine lv_aload_n hx hb dX10_close_44 rfl (lv_at hl 1 rfl) ?_
    refine g_getr X w_M_6 fg_X10_78 KD_0 FR_0_9 dX10_close_45 ?_
    refine g_iconst X dX10_close_48 ?_
    obtain ⟨M_7, hc, hf⟩ := obn_some hf
    refine g_csv (As := [.ref (ad 1), .int (i2 (-1))]) (rest := []) X w_M_6 (k_J7_fill_53178 X.2.2.1 1 KA_1 (-1) (inL rfl) w_M_6.2.2 hc) lk_X10_82 ⟨rfl, rfl⟩ ⟨nle rfl, nle rfl⟩ ⟨nle rfl, nle rfl⟩ hl.1 rfl (nle rfl) dX10_close_49 (fun H locs w_M_7 => ?_)
    refine lv_aload_n hx hb dX10_close_52 rfl (lv_at hl 1 rfl) ?_
    refine g_iconst X dX10_close_53 ?_
    obtain ⟨M_8, eM_8, hf⟩ := lt_some hf
    refine g_putz X w_M_7 fp_X10_109 KD_0 FR_0_16 (Or.inl rfl) dX10_close_54 (fun H locs w_M_8 => ?_)
    rw [← eM_8] at w_M_8
    refine lv_aload_n hx hb dX10_close_57 rfl (lv_at hl 1 rfl) ?_
    refine lv_dup hx hb dX10_close_58 rfl ?_
    refine g_geti X w_M_8 fg_X10_331 KD_0 FR_0_14 dX10_close_59 ?_
    refine g_iconst X dX10_close_62 ?_
    refine g_iadd X dX10_close_63 ?_
    obtain ⟨M_9, eM_9, hf⟩ := lt_some hf
    refine g_puti X w_M_8 fp_X10_331 KD_0 FR_0_14 (inR_wrap _) dX10_close_64 (fun H locs w_M_9 => ?_)
    rw [← eM_9] at w_M_9
    refine lv_iload_n hx hb dX10_close_67 rfl (lv_at hl 0 rfl) ?_
    exact HR r_2 M_9 _ _ _ _ (Option.some.inj hf).symm hr_2 w_M_9 dX10_close_68
  · replace hf := ite_t cd hf
    refine g_iconst X dX10_close_7 ?_
    exact HR (-1) M _ _ _ _ (Option.some.inj hf).symm (inL rfl) w dX10_close_8
set_option maxRecDepth 100000 in
set_option maxHeartbeats 4000000 in
theorem k_X10_close {l : Launch} {D : va_G} {aC : Nat → ClassId} {ad : Nat → Nat} {sg : SG} (hi : Inj ad)  {M : Mem} (hM : inM M) {r : Int} {M' : Mem} (hf : f_X10_close M = some (r, M')) : MetI l D aC ad sg yX10_close cX10_close 2 (some .int) rm_X10_close 0 0 [.ref (ad 0)] M r M' := by
  refine MetI.ofI (by decide +kernel) (nle rfl) hi hM (fun p e s m args below meth c Q H0 ls X hl w hret => ?_)
  exact b_X10_close_0 X  (fun r1 M1 H locs pc ls eo hP w dg => by cases eo; exact hret H locs pc ls hP w dg) M hf hl w
set_option maxRecDepth 100000 in
set_option maxHeartbeats 4000000 in
theorem b_X10_regret_0 (X : CX p s m args c cX10_regret 3 RX10 D aC ad sg A H0) {M : Mem} {o : Int} (HR : ∀ (r : Int) (H : Heap) (locs : List Loc) (pc : Nat) (ls : Array Slot), o = r → inR r → WS D aC ad A H0 M H locs → decode cX10_regret pc = .ok (.ireturn, 1) → W p l e rm_X10_regret s m args below meth c H locs 0 0 Q (F0 m pc ls [.int (i2 r)])) (p1 : Int) (hp1 : inR p1) (p2 : Int) (hp2 : inR p2) (hf : f_X10_regret p1 p2 M = some o) {H : Heap} {locs : List Loc} {ls : Array Slot} (hl : lv_has ls 3 [(0, .ref (ad 0)), (1, .int (i2 p1)), (2, .int (i2 p2))]) (w : WS D aC ad A H0 M H locs) : W p l e rm_X10_regret s m args below meth c H locs 0 0 Q (F0 m 0 ls []) := by
  have hx := X.1.1
  have hb := X.1.2.1
  unfold f_X10_regret at hf
  refine lv_aload_n hx hb dX10_regret_0 rfl (lv_at hl 0 rfl) ?_
  refine g_getr X w fg_X10_10 KD_0 FR_0_0 dX10_regret_1 ?_
  refine lv_iload_n hx hb dX10_regret_4 rfl (lv_at hl 1 rfl) ?_
  refine lv_iload_n hx hb dX10_regret_5 rfl (lv_at hl 2 rfl) ?_
  obtain ⟨r, hc, hf⟩ := obn_some hf
  refine g_cvi (As := [.int (i2 p1), .int (i2 p2)]) (rest := []) X w (k_X1_areTwo X.2.2.1 p1 hp1 p2 hp2 w.2.2 hc) lk_X10_128 cl_1 KD_3 ⟨rfl, rfl⟩ ⟨nle rfl, nle rfl⟩ ⟨nle rfl, nle rfl⟩ hl.1 rfl (nle rfl) dX10_regret_6 (fun hr H locs w => ?_)
  refine g_if_eq (tgt := 29) X hr dX10_regret_9 (by decide) (fun cd => ?_) (fun cd => ?_)
  · replace hf := ite_t cd hf
    refine g_iconst X dX10_regret_29 ?_
    exact HR (-1) _ _ _ _ (Option.some.inj hf).symm (inL rfl) w dX10_regret_30
  · replace hf := ite_f cd hf
    refine lv_aload_n hx hb dX10_regret_12 rfl (lv_at hl 0 rfl) ?_
    refine g_getr X w fg_X10_10 KD_0 FR_0_0 dX10_regret_13 ?_
    refine g_getr X w fg_X10_334 KD_3 FR_3_10 dX10_regret_16 ?_
    refine lv_iload_n hx hb dX10_regret_19 rfl (lv_at hl 1 rfl) ?_
    refine g_bipush X dX10_regret_20 (by decide) ?_
    refine g_imul X dX10_regret_22 ?_
    refine lv_iload_n hx hb dX10_regret_23 rfl (lv_at hl 2 rfl) ?_
    refine g_iadd X dX10_regret_24 ?_
    obtain ⟨hg, hf⟩ := gd_some hf
    refine g_iald X w KD_13 (inR_wrap _) hg dX10_regret_25 ?_
    refine lv_goto (tgt := 30) hx hb dX10_regret_26 (by decide) ?_
    exact HR (M 13 (wrap ((wrap (p1 * 14)) + p2)).toNat) _ _ _ _ (Option.some.inj hf).symm (w.2.2 _ _) w dX10_regret_30
set_option maxRecDepth 100000 in
set_option maxHeartbeats 4000000 in
theorem k_X10_regret {l : Launch} {D : va_G} {aC : Nat → ClassId} {ad : Nat → Nat} {sg : SG} (hi : Inj ad) (p1 : Int) (hp1 : inR p1) (p2 : Int) (hp2 : inR p2) {M : Mem} (hM : inM M) {r : Int} (hf : f_X10_regret p1 p2 M = some r) : MetI l D aC ad sg yX10_regret cX10_regret 3 (some .int) rm_X10_regret 0 0 [.ref (ad 0), .int (i2 p1), .int (i2 p2)] M r M := by
  refine MetI.ofI (by decide +kernel) (nle rfl) hi hM (fun p e s m args below meth c Q H0 ls X hl w hret => ?_)
  exact b_X10_regret_0 X  (fun r1 H locs pc ls eo hP w dg => by cases eo; exact hret H locs pc ls hP w dg) p1 hp1 p2 hp2 hf hl w
set_option maxRecDepth 100000 in
set_option maxHeartbeats 4000000 in
theorem b_X10_scaled_0 (X : CX p s m args c cX10_scaled 5 RX10 D aC ad sg A H0) {o : Int × Mem} (HR : ∀ (r : Int) (M1 : Mem) (H : Heap) (locs : List Loc) (pc : Nat) (ls : Array Slot), o = (r, M1) → inR r → WS D aC ad A H0 M1 H locs → decode cX10_scaled pc = .ok (.ireturn, 1) → W p l e rm_X10_scaled s m args below meth c H locs 0 0 Q (F0 m pc ls [.int (i2 r)])) (p1 : Int) (hp1 : inR p1) (p2 : Int) (hp2 : inR p2) (p3 : Int) (hp3 : inR p3) (p4 : Int) (hp4 : inR p4) (M : Mem) (hf : f_X10_scaled p1 p2 p3 p4 M = some o) {H : Heap} {locs : List Loc} {ls : Array Slot} (hl : lv_has ls 5 [(0, .ref (ad 0)), (1, .int (i2 p1)), (2, .int (i2 p2)), (3, .int (i2 p3)), (4, .int (i2 p4))]) (w : WS D aC ad A H0 M H locs) : W p l e rm_X10_scaled s m args below meth c H locs 0 0 Q (F0 m 0 ls []) := by
  have hx := X.1.1
  have hb := X.1.2.1
  unfold f_X10_scaled at hf
  refine lv_iload_n hx hb dX10_scaled_0 rfl (lv_at hl 1 rfl) ?_
  refine g_iconst X dX10_scaled_1 ?_
  refine g_iconst X dX10_scaled_2 ?_
  obtain ⟨r, hc, hf⟩ := obn_some hf
  refine g_csi (As := [.int (i2 p1), .int (i2 (-1)), .int (i2 3)]) (rest := []) X w (k_X10_within X.2.2.1 p1 hp1 (-1) (inL rfl) 3 (inL rfl) w.2.2 hc) lk_X10_105 ⟨rfl, rfl⟩ ⟨nle rfl, nle rfl⟩ ⟨nle rfl, nle rfl⟩ hl.1 rfl (nle rfl) dX10_scaled_3 (fun hr H locs w => ?_)
  refine g_if_eq (tgt := 38) X hr dX10_scaled_6 (by decide) (fun cd => ?_) (fun cd => ?_)
  · replace hf := ite_t cd hf
    refine g_iconst X dX10_scaled_38 ?_
    exact HR (-1) M _ _ _ _ (Option.some.inj hf).symm (inL rfl) w dX10_scaled_39
  · replace hf := ite_f cd hf
    refine lv_aload_n hx hb dX10_scaled_9 rfl (lv_at hl 0 rfl) ?_
    refine g_getr X w fg_X10_10 KD_0 FR_0_0 dX10_scaled_10 ?_
    refine lv_iload_n hx hb dX10_scaled_13 rfl (lv_at hl 2 rfl) ?_
    obtain ⟨r_2, hc, hf⟩ := obn_some hf
    refine g_cvi (As := [.int (i2 p2)]) (rest := []) X w (k_X1_has X.2.2.1 p2 hp2 w.2.2 hc) lk_X10_120 cl_1 KD_3 ⟨rfl, rfl⟩ ⟨nle rfl, nle rfl⟩ ⟨nle rfl, nle rfl⟩ hl.1 rfl (nle rfl) dX10_scaled_14 (fun hr_2 H locs w => ?_)
    refine g_if_eq (tgt := 38) X hr_2 dX10_scaled_17 (by decide) (fun cd_2 => ?_) (fun cd_2 => ?_)
    · replace hf := ite_t cd_2 hf
      refine g_iconst X dX10_scaled_38 ?_
      exact HR (-1) M _ _ _ _ (Option.some.inj hf).symm (inL rfl) w dX10_scaled_39
    · replace hf := ite_f cd_2 hf
      refine lv_iload_n hx hb dX10_scaled_20 rfl (lv_at hl 3 rfl) ?_
      refine g_iconst X dX10_scaled_21 ?_
      refine g_iconst X dX10_scaled_22 ?_
      obtain ⟨r_3, hc, hf⟩ := obn_some hf
      refine g_csi (As := [.int (i2 p3), .int (i2 0), .int (i2 1)]) (rest := []) X w (k_X10_within X.2.2.1 p3 hp3 0 (inL rfl) 1 (inL rfl) w.2.2 hc) lk_X10_105 ⟨rfl, rfl⟩ ⟨nle rfl, nle rfl⟩ ⟨nle rfl, nle rfl⟩ hl.1 rfl (nle rfl) dX10_scaled_23 (fun hr_3 H locs w => ?_)
      refine g_if_eq (tgt := 38) X hr_3 dX10_scaled_26 (by decide) (fun cd_3 => ?_) (fun cd_3 => ?_)
      · replace hf := ite_t cd_3 hf
        refine g_iconst X dX10_scaled_38 ?_
        exact HR (-1) M _ _ _ _ (Option.some.inj hf).symm (inL rfl) w dX10_scaled_39
      · replace hf := ite_f cd_3 hf
        refine lv_aload_n hx hb dX10_scaled_29 rfl (lv_at hl 0 rfl) ?_
        refine lv_iload hx hb dX10_scaled_30 (lv_at hl 4 rfl) ?_
        obtain ⟨r_4, hc, hf⟩ := obn_some hf
        refine g_cvi (As := [.int (i2 p4)]) (rest := []) X w (k_X10_isDay X.2.2.1 p4 hp4 w.2.2 hc) lk_X10_180 cl_10 KD_0 ⟨rfl, rfl⟩ ⟨nle rfl, nle rfl⟩ ⟨nle rfl, nle rfl⟩ hl.1 rfl (nle rfl) dX10_scaled_32 (fun hr_4 H locs w => ?_)
        refine g_if_ne (tgt := 40) X hr_4 dX10_scaled_35 (by decide) (fun cd_4 => ?_) (fun cd_4 => ?_)
        · replace hf := ite_f cd_4 hf
          refine lv_aload_n hx hb dX10_scaled_40 rfl (lv_at hl 0 rfl) ?_
          refine g_getr X w fg_X10_19 KD_0 FR_0_1 dX10_scaled_41 ?_
          refine lv_iload hx hb dX10_scaled_44 (lv_at hl 4 rfl) ?_
          obtain ⟨M_2, hc, hf⟩ := obn_some hf
          refine g_cvv (As := [.int (i2 p4)]) (rest := []) X w (k_X5_learn X.2.2.1 p4 hp4 w.2.2 hc) lk_X10_298 cl_5 KD_17 ⟨rfl, rfl⟩ ⟨nle rfl, nle rfl⟩ ⟨nle rfl, nle rfl⟩ hl.1 rfl (nle rfl) dX10_scaled_46 (fun H locs w_M_2 => ?_)
          refine lv_iload_n hx hb dX10_scaled_49 rfl (lv_at hl 1 rfl) ?_
          refine g_iconst X dX10_scaled_50 ?_
          refine g_icmp_ne (tgt := 66) X hp1 (inL rfl) dX10_scaled_51 (by decide) (fun cd_5 => ?_) (fun cd_5 => ?_)
          · replace hf := ite_f cd_5 hf
            refine lv_aload_n hx hb dX10_scaled_66 rfl (lv_at hl 0 rfl) ?_
            refine g_getr X w_M_2 fg_X10_19 KD_0 FR_0_1 dX10_scaled_67 ?_
            refine lv_iload_n hx hb dX10_scaled_70 rfl (lv_at hl 1 rfl) ?_
            refine lv_iload_n hx hb dX10_scaled_71 rfl (lv_at hl 2 rfl) ?_
            refine lv_iload_n hx hb dX10_scaled_72 rfl (lv_at hl 3 rfl) ?_
            obtain ⟨r_5, hc, hf⟩ := obn_some hf
            refine g_cvi (As := [.int (i2 p1), .int (i2 p2), .int (i2 p3)]) (rest := []) X w_M_2 (k_X5_scale X.2.2.1 p1 hp1 p2 hp2 p3 hp3 w_M_2.2.2 hc) lk_X10_340 cl_5 KD_17 ⟨rfl, rfl⟩ ⟨nle rfl, nle rfl⟩ ⟨nle rfl, nle rfl⟩ hl.1 rfl (nle rfl) dX10_scaled_73 (fun hr_5 H locs w_M_2 => ?_)
            exact HR r_5 M_2 _ _ _ _ (Option.some.inj hf).symm hr_5 w_M_2 dX10_scaled_76
          · replace hf := ite_t cd_5 hf
            refine lv_aload_n hx hb dX10_scaled_54 rfl (lv_at hl 0 rfl) ?_
            refine g_getr X w_M_2 fg_X10_19 KD_0 FR_0_1 dX10_scaled_55 ?_
            refine lv_iload_n hx hb dX10_scaled_58 rfl (lv_at hl 2 rfl) ?_
            refine lv_iload_n hx hb dX10_scaled_59 rfl (lv_at hl 3 rfl) ?_
            obtain ⟨r_6, hc, hf⟩ := obn_some hf
            refine g_cvi (As := [.int (i2 p2), .int (i2 p3)]) (rest := []) X w_M_2 (k_X5_overall X.2.2.1 p2 hp2 p3 hp3 w_M_2.2.2 hc) lk_X10_337 cl_5 KD_17 ⟨rfl, rfl⟩ ⟨nle rfl, nle rfl⟩ ⟨nle rfl, nle rfl⟩ hl.1 rfl (nle rfl) dX10_scaled_60 (fun hr_6 H locs w_M_2 => ?_)
            refine lv_goto (tgt := 76) hx hb dX10_scaled_63 (by decide) ?_
            exact HR r_6 M_2 _ _ _ _ (Option.some.inj hf).symm hr_6 w_M_2 dX10_scaled_76
        · replace hf := ite_t cd_4 hf
          refine g_iconst X dX10_scaled_38 ?_
          exact HR (-1) M _ _ _ _ (Option.some.inj hf).symm (inL rfl) w dX10_scaled_39
set_option maxRecDepth 100000 in
set_option maxHeartbeats 4000000 in
theorem k_X10_scaled {l : Launch} {D : va_G} {aC : Nat → ClassId} {ad : Nat → Nat} {sg : SG} (hi : Inj ad) (p1 : Int) (hp1 : inR p1) (p2 : Int) (hp2 : inR p2) (p3 : Int) (hp3 : inR p3) (p4 : Int) (hp4 : inR p4) {M : Mem} (hM : inM M) {r : Int} {M' : Mem} (hf : f_X10_scaled p1 p2 p3 p4 M = some (r, M')) : MetI l D aC ad sg yX10_scaled cX10_scaled 5 (some .int) rm_X10_scaled 0 0 [.ref (ad 0), .int (i2 p1), .int (i2 p2), .int (i2 p3), .int (i2 p4)] M r M' := by
  refine MetI.ofI (by decide +kernel) (nle rfl) hi hM (fun p e s m args below meth c Q H0 ls X hl w hret => ?_)
  exact b_X10_scaled_0 X  (fun r1 M1 H locs pc ls eo hP w dg => by cases eo; exact hret H locs pc ls hP w dg) p1 hp1 p2 hp2 p3 hp3 p4 hp4 M hf hl w
set_option maxRecDepth 100000 in
set_option maxHeartbeats 4000000 in
theorem b_X10_countClass_0 (X : CX p s m args c cX10_countClass 2 RX10 D aC ad sg A H0) {o : Int × Mem} (HR : ∀ (r : Int) (M1 : Mem) (H : Heap) (locs : List Loc) (pc : Nat) (ls : Array Slot), o = (r, M1) → inR r → WS D aC ad A H0 M1 H locs → decode cX10_countClass pc = .ok (.ireturn, 1) → W p l e rm_X10_countClass s m args below meth c H locs 0 0 Q (F0 m pc ls [.int (i2 r)])) (p1 : Int) (hp1 : inR p1) (M : Mem) (hf : f_X10_countClass p1 M = some o) {H : Heap} {locs : List Loc} {ls : Array Slot} (hl : lv_has ls 2 [(0, .ref (ad 0)), (1, .int (i2 p1))]) (w : WS D aC ad A H0 M H locs) : W p l e rm_X10_countClass s m args below meth c H locs 0 0 Q (F0 m 0 ls []) := by
  have hx := X.1.1
  have hb := X.1.2.1
  unfold f_X10_countClass at hf
  refine lv_iload_n hx hb dX10_countClass_0 rfl (lv_at hl 1 rfl) ?_
  refine g_bipush X dX10_countClass_1 (by decide) ?_
  refine g_bipush X dX10_countClass_3 (by decide) ?_
  refine lv_aload_n hx hb dX10_countClass_5 rfl (lv_at hl 0 rfl) ?_
  refine g_getr X w fg_X10_10 KD_0 FR_0_0 dX10_countClass_6 ?_
  refine g_geti X w fg_X10_151 KD_3 FR_3_13 dX10_countClass_9 ?_
  refine g_iadd X dX10_countClass_12 ?_
  obtain ⟨r, hc, hf⟩ := obn_some hf
  refine g_csi (As := [.int (i2 p1), .int (i2 10), .int (i2 (wrap (9 + (M 3 13))))]) (rest := []) X w (k_X10_within X.2.2.1 p1 hp1 10 (inL rfl) (wrap (9 + (M 3 13))) (inR_wrap _) w.2.2 hc) lk_X10_105 ⟨rfl, rfl⟩ ⟨nle rfl, nle rfl⟩ ⟨nle rfl, nle rfl⟩ hl.1 rfl (nle rfl) dX10_countClass_13 (fun hr H locs w => ?_)
  refine g_if_eq (tgt := 36) X hr dX10_countClass_16 (by decide) (fun cd => ?_) (fun cd => ?_)
  · replace hf := ite_t cd hf
    refine lv_iload_n hx hb dX10_countClass_36 rfl (lv_at hl 1 rfl) ?_
    refine g_bipush X dX10_countClass_37 (by decide) ?_
    refine g_bipush X dX10_countClass_39 (by decide) ?_
    obtain ⟨r_2, hc, hf⟩ := obn_some hf
    refine g_csi (As := [.int (i2 p1), .int (i2 20), .int (i2 22)]) (rest := []) X w (k_X10_within X.2.2.1 p1 hp1 20 (inL rfl) 22 (inL rfl) w.2.2 hc) lk_X10_105 ⟨rfl, rfl⟩ ⟨nle rfl, nle rfl⟩ ⟨nle rfl, nle rfl⟩ hl.1 rfl (nle rfl) dX10_countClass_41 (fun hr_2 H locs w => ?_)
    refine g_if_eq (tgt := 62) X hr_2 dX10_countClass_44 (by decide) (fun cd_2 => ?_) (fun cd_2 => ?_)
    · replace hf := ite_t cd_2 hf
      refine g_iconst X dX10_countClass_62 ?_
      exact HR (-1) M _ _ _ _ (Option.some.inj hf).symm (inL rfl) w dX10_countClass_63
    · replace hf := ite_f cd_2 hf
      refine lv_aload_n hx hb dX10_countClass_47 rfl (lv_at hl 0 rfl) ?_
      refine g_getr X w fg_X10_10 KD_0 FR_0_0 dX10_countClass_48 ?_
      refine g_getr X w fg_X10_154 KD_3 FR_3_14 dX10_countClass_51 ?_
      refine lv_iload_n hx hb dX10_countClass_54 rfl (lv_at hl 1 rfl) ?_
      refine g_bipush X dX10_countClass_55 (by decide) ?_
      refine g_isub X dX10_countClass_57 ?_
      obtain ⟨hg, hf⟩ := gd_some hf
      refine g_iald X w KD_16 (inR_wrap _) hg dX10_countClass_58 ?_
      refine lv_goto (tgt := 63) hx hb dX10_countClass_59 (by decide) ?_
      exact HR (M 16 (wrap (p1 - 20)).toNat) M _ _ _ _ (Option.some.inj hf).symm (w.2.2 _ _) w dX10_countClass_63
  · replace hf := ite_f cd hf
    refine lv_aload_n hx hb dX10_countClass_19 rfl (lv_at hl 0 rfl) ?_
    obtain ⟨M_2, hc, hf⟩ := obn_some hf
    refine g_cvv (As := []) (rest := []) X w (k_X10_gatherList X.2.2.1  w.2.2 hc) lk_X10_228 cl_10 KD_0 ⟨rfl, rfl⟩ ⟨nle rfl, nle rfl⟩ ⟨nle rfl, nle rfl⟩ hl.1 rfl (nle rfl) dX10_countClass_20 (fun H locs w_M_2 => ?_)
    refine lv_aload_n hx hb dX10_countClass_23 rfl (lv_at hl 0 rfl) ?_
    refine g_getr X w_M_2 fg_X10_88 KD_0 FR_0_10 dX10_countClass_24 ?_
    refine lv_iload_n hx hb dX10_countClass_27 rfl (lv_at hl 1 rfl) ?_
    refine g_bipush X dX10_countClass_28 (by decide) ?_
    refine g_isub X dX10_countClass_30 ?_
    obtain ⟨hg_2, hf⟩ := gd_some hf
    refine g_iald X w_M_2 KD_2 (inR_wrap _) hg_2 dX10_countClass_31 ?_
    obtain ⟨r_3, hc, hf⟩ := obn_some hf
    refine g_csi (As := [.int (i2 (M_2 2 (wrap (p1 - 10)).toNat))]) (rest := []) X w_M_2 (k_J6_bitCount_0f7a4 X.2.2.1 (M_2 2 (wrap (p1 - 10)).toNat) (w_M_2.2.2 _ _) w_M_2.2.2 hc) lk_X10_361 ⟨rfl, rfl⟩ ⟨nle rfl, nle rfl⟩ ⟨nle rfl, nle rfl⟩ hl.1 rfl (nle rfl) dX10_countClass_32 (fun hr_3 H locs w_M_2 => ?_)
    exact HR r_3 M_2 _ _ _ _ (Option.some.inj hf).symm hr_3 w_M_2 dX10_countClass_35
set_option maxRecDepth 100000 in
set_option maxHeartbeats 4000000 in
theorem k_X10_countClass {l : Launch} {D : va_G} {aC : Nat → ClassId} {ad : Nat → Nat} {sg : SG} (hi : Inj ad) (p1 : Int) (hp1 : inR p1) {M : Mem} (hM : inM M) {r : Int} {M' : Mem} (hf : f_X10_countClass p1 M = some (r, M')) : MetI l D aC ad sg yX10_countClass cX10_countClass 2 (some .int) rm_X10_countClass 0 0 [.ref (ad 0), .int (i2 p1)] M r M' := by
  refine MetI.ofI (by decide +kernel) (nle rfl) hi hM (fun p e s m args below meth c Q H0 ls X hl w hret => ?_)
  exact b_X10_countClass_0 X  (fun r1 M1 H locs pc ls eo hP w dg => by cases eo; exact hret H locs pc ls hP w dg) p1 hp1 M hf hl w
set_option maxRecDepth 100000 in
set_option maxHeartbeats 4000000 in
theorem b_X10_count_0 (X : CX p s m args c cX10_count 2 RX10 D aC ad sg A H0) {o : Int × Mem} (HR : ∀ (r : Int) (M1 : Mem) (H : Heap) (locs : List Loc) (pc : Nat) (ls : Array Slot), o = (r, M1) → inR r → WS D aC ad A H0 M1 H locs → decode cX10_count pc = .ok (.ireturn, 1) → W p l e rm_X10_count s m args below meth c H locs 0 0 Q (F0 m pc ls [.int (i2 r)])) (p1 : Int) (hp1 : inR p1) (M : Mem) (hf : f_X10_count p1 M = some o) {H : Heap} {locs : List Loc} {ls : Array Slot} (hl : lv_has ls 2 [(0, .ref (ad 0)), (1, .int (i2 p1))]) (w : WS D aC ad A H0 M H locs) : W p l e rm_X10_count s m args below meth c H locs 0 0 Q (F0 m 0 ls []) := by
  have hx := X.1.1
  have hb := X.1.2.1
  unfold f_X10_count at hf
  refine lv_iload_n hx hb dX10_count_0 rfl (lv_at hl 1 rfl) ?_
  by_cases cd : p1 < 0 ∨ 9 < p1
  · replace hf := ite_t cd hf
    refine g_tout (tgt := 127) X hp1 cd dX10_count_1 (by decide) ?_
    refine lv_aload_n hx hb dX10_count_127 rfl (lv_at hl 0 rfl) ?_
    refine lv_iload_n hx hb dX10_count_128 rfl (lv_at hl 1 rfl) ?_
    obtain ⟨r, M_2, hc, hf⟩ := bnd_some hf
    refine g_cvi (As := [.int (i2 p1)]) (rest := []) X w (k_X10_countClass X.2.2.1 p1 hp1 w.2.2 hc) lk_X10_368 cl_10 KD_0 ⟨rfl, rfl⟩ ⟨nle rfl, nle rfl⟩ ⟨nle rfl, nle rfl⟩ hl.1 rfl (nle rfl) dX10_count_129 (fun hr H locs w_M_2 => ?_)
    exact HR r M_2 _ _ _ _ (Option.some.inj hf).symm hr w_M_2 dX10_count_132
  · replace hf := ite_f cd hf
    by_cases cd_2 : p1 = 0
    · replace hf := ite_t cd_2 hf
      refine g_tin (tgt := 56) (k := 0) (off := 55) X cd_2 hp1 (by decide) (by decide) (by rfl) dX10_count_1 (by decide) ?_
      refine lv_aload_n hx hb dX10_count_56 rfl (lv_at hl 0 rfl) ?_
      refine g_getr X w fg_X10_10 KD_0 FR_0_0 dX10_count_57 ?_
      refine g_geti X w fg_X10_194 KD_3 FR_3_0 dX10_count_60 ?_
      exact HR (M 3 0) M _ _ _ _ (Option.some.inj hf).symm (w.2.2 _ _) w dX10_count_63
    · replace hf := ite_f cd_2 hf
      by_cases cd_3 : p1 = 1
      · replace hf := ite_t cd_3 hf
        refine g_tin (tgt := 64) (k := 1) (off := 63) X cd_3 hp1 (by decide) (by decide) (by rfl) dX10_count_1 (by decide) ?_
        refine lv_aload_n hx hb dX10_count_64 rfl (lv_at hl 0 rfl) ?_
        refine g_getr X w fg_X10_10 KD_0 FR_0_0 dX10_count_65 ?_
        refine g_geti X w fg_X10_151 KD_3 FR_3_13 dX10_count_68 ?_
        exact HR (M 3 13) M _ _ _ _ (Option.some.inj hf).symm (w.2.2 _ _) w dX10_count_71
      · replace hf := ite_f cd_3 hf
        by_cases cd_4 : p1 = 2
        · replace hf := ite_t cd_4 hf
          refine g_tin (tgt := 72) (k := 2) (off := 71) X cd_4 hp1 (by decide) (by decide) (by rfl) dX10_count_1 (by decide) ?_
          refine lv_aload_n hx hb dX10_count_72 rfl (lv_at hl 0 rfl) ?_
          refine g_geti X w fg_X10_113 KD_0 FR_0_13 dX10_count_73 ?_
          exact HR (M 0 13) M _ _ _ _ (Option.some.inj hf).symm (w.2.2 _ _) w dX10_count_76
        · replace hf := ite_f cd_4 hf
          by_cases cd_5 : p1 = 3
          · replace hf := ite_t cd_5 hf
            refine g_tin (tgt := 77) (k := 3) (off := 76) X cd_5 hp1 (by decide) (by decide) (by rfl) dX10_count_1 (by decide) ?_
            refine lv_aload_n hx hb dX10_count_77 rfl (lv_at hl 0 rfl) ?_
            refine g_getr X w fg_X10_19 KD_0 FR_0_1 dX10_count_78 ?_
            refine g_geti X w fg_X10_366 KD_17 FR_17_0 dX10_count_81 ?_
            exact HR (M 17 0) M _ _ _ _ (Option.some.inj hf).symm (w.2.2 _ _) w dX10_count_84
          · replace hf := ite_f cd_5 hf
            by_cases cd_6 : p1 = 4
            · replace hf := ite_t cd_6 hf
              refine g_tin (tgt := 85) (k := 4) (off := 84) X cd_6 hp1 (by decide) (by decide) (by rfl) dX10_count_1 (by decide) ?_
              refine lv_aload_n hx hb dX10_count_85 rfl (lv_at hl 0 rfl) ?_
              refine g_getr X w fg_X10_26 KD_0 FR_0_2 dX10_count_86 ?_
              refine g_geti X w fg_X10_164 KD_24 FR_24_0 dX10_count_89 ?_
              exact HR (M 24 0) M _ _ _ _ (Option.some.inj hf).symm (w.2.2 _ _) w dX10_count_92
            · replace hf := ite_f cd_6 hf
              by_cases cd_7 : p1 = 5
              · replace hf := ite_t cd_7 hf
                refine g_tin (tgt := 93) (k := 5) (off := 92) X cd_7 hp1 (by decide) (by decide) (by rfl) dX10_count_1 (by decide) ?_
                refine lv_aload_n hx hb dX10_count_93 rfl (lv_at hl 0 rfl) ?_
                obtain ⟨r_2, hc, hf⟩ := obn_some hf
                refine g_cvi (As := []) (rest := []) X w (k_X10_countListed X.2.2.1  w.2.2 hc) lk_X10_239 cl_10 KD_0 ⟨rfl, rfl⟩ ⟨nle rfl, nle rfl⟩ ⟨nle rfl, nle rfl⟩ hl.1 rfl (nle rfl) dX10_count_94 (fun hr_2 H locs w => ?_)
                exact HR r_2 M _ _ _ _ (Option.some.inj hf).symm hr_2 w dX10_count_97
              · replace hf := ite_f cd_7 hf
                by_cases cd_8 : p1 = 6
                · replace hf := ite_t cd_8 hf
                  refine g_tin (tgt := 98) (k := 6) (off := 97) X cd_8 hp1 (by decide) (by decide) (by rfl) dX10_count_1 (by decide) ?_
                  refine lv_aload_n hx hb dX10_count_98 rfl (lv_at hl 0 rfl) ?_
                  refine g_geti X w fg_X10_331 KD_0 FR_0_14 dX10_count_99 ?_
                  exact HR (M 0 14) M _ _ _ _ (Option.some.inj hf).symm (w.2.2 _ _) w dX10_count_102
                · replace hf := ite_f cd_8 hf
                  by_cases cd_9 : p1 = 7
                  · replace hf := ite_t cd_9 hf
                    refine g_tin (tgt := 103) (k := 7) (off := 102) X cd_9 hp1 (by decide) (by decide) (by rfl) dX10_count_1 (by decide) ?_
                    refine lv_aload_n hx hb dX10_count_103 rfl (lv_at hl 0 rfl) ?_
                    obtain ⟨hru, hf⟩ := gd_some hf
                    refine g_getd X w fg_X10_94 KD_0 FR_0_11 hru dX10_count_104 ?_
                    refine g_geti X w fg_X10_174 (KD_ru hru) (FR_ru_0 hru) dX10_count_107 ?_
                    exact HR (M ((M 0 11).toNat) 0) M _ _ _ _ (Option.some.inj hf).symm (w.2.2 _ _) w dX10_count_110
                  · replace hf := ite_f cd_9 hf
                    by_cases cd_10 : p1 = 8
                    · replace hf := ite_t cd_10 hf
                      refine g_tin (tgt := 111) (k := 8) (off := 110) X cd_10 hp1 (by decide) (by decide) (by rfl) dX10_count_1 (by decide) ?_
                      refine lv_aload_n hx hb dX10_count_111 rfl (lv_at hl 0 rfl) ?_
                      refine g_getr X w fg_X10_67 KD_0 FR_0_7 dX10_count_112 ?_
                      refine g_geti X w fg_X10_297 KD_51 FR_51_0 dX10_count_115 ?_
                      exact HR (M 51 0) M _ _ _ _ (Option.some.inj hf).symm (w.2.2 _ _) w dX10_count_118
                    · replace hf := ite_f cd_10 hf
                      by_cases cd_11 : p1 = 9
                      · replace hf := ite_t cd_11 hf
                        refine g_tin (tgt := 119) (k := 9) (off := 118) X cd_11 hp1 (by decide) (by decide) (by rfl) dX10_count_1 (by decide) ?_
                        refine lv_aload_n hx hb dX10_count_119 rfl (lv_at hl 0 rfl) ?_
                        refine g_getr X w fg_X10_74 KD_0 FR_0_8 dX10_count_120 ?_
                        refine g_geti X w fg_X10_367 KD_57 FR_57_0 dX10_count_123 ?_
                        exact HR (M 57 0) M _ _ _ _ (Option.some.inj hf).symm (w.2.2 _ _) w dX10_count_126
                      · replace hf := ite_f cd_11 hf
                        cases hf
set_option maxRecDepth 100000 in
set_option maxHeartbeats 4000000 in
theorem k_X10_count {l : Launch} {D : va_G} {aC : Nat → ClassId} {ad : Nat → Nat} {sg : SG} (hi : Inj ad) (p1 : Int) (hp1 : inR p1) {M : Mem} (hM : inM M) {r : Int} {M' : Mem} (hf : f_X10_count p1 M = some (r, M')) : MetI l D aC ad sg yX10_count cX10_count 2 (some .int) rm_X10_count 0 0 [.ref (ad 0), .int (i2 p1)] M r M' := by
  refine MetI.ofI (by decide +kernel) (nle rfl) hi hM (fun p e s m args below meth c Q H0 ls X hl w hret => ?_)
  exact b_X10_count_0 X  (fun r1 M1 H locs pc ls eo hP w dg => by cases eo; exact hret H locs pc ls hP w dg) p1 hp1 M hf hl w
end
