section
variable {p : Program} {l : Launch} {e : Env} {s : State} {m : MethodId} {args : Array Value} {below : List Frame} {meth : Method} {c : Code} {Q : State → Prop} {D : va_G} {aC : Nat → ClassId} {ad : Nat → Nat} {sg : SG} {A : Nat → Prop} {H0 : Heap}
set_option maxRecDepth 100000 in
set_option maxHeartbeats 4000000 in
theorem b_J6_bitCount_0f7a4_0 (X : CX p s m args c cJ6_bitCount_0f7a4 1 RJ6 D aC ad sg A H0) {M : Mem} {o : Int} (HR : ∀ (r : Int) (H : Heap) (locs : List Loc) (pc : Nat) (ls : Array Slot), o = r → inR r → WS D aC ad A H0 M H locs → decode cJ6_bitCount_0f7a4 pc = .ok (.ireturn, 1) → W p l e rm_J6_bitCount_0f7a4 s m args below meth c H locs 0 0 Q (F0 m pc ls [.int (i2 r)])) (p0 : Int) (hp0 : inR p0) (hf : f_J6_bitCount_0f7a4 p0 M = some o) {H : Heap} {locs : List Loc} {ls : Array Slot} (hl : lv_has ls 1 [(0, .int (i2 p0))]) (w : WS D aC ad A H0 M H locs) : W p l e rm_J6_bitCount_0f7a4 s m args below meth c H locs 0 0 Q (F0 m 0 ls []) := by
  have hx := X.1.1
  have hb := X.1.2.1
  unfold f_J6_bitCount_0f7a4 at hf
  refine lv_iload_n hx hb dJ6_bitCount_0f7a4_0 rfl (lv_at hl 0 rfl) ?_
  refine lv_iload_n hx hb dJ6_bitCount_0f7a4_1 rfl (lv_at hl 0 rfl) ?_
  refine g_iconst X dJ6_bitCount_0f7a4_2 ?_
  refine g_iushr X dJ6_bitCount_0f7a4_3 ?_
  refine g_ldcw X kc_J6_265 dJ6_bitCount_0f7a4_4 ?_
  refine g_iand X dJ6_bitCount_0f7a4_7 ?_
  refine g_isub X dJ6_bitCount_0f7a4_8 ?_
  obtain ⟨v0, ev0, hf⟩ := lt_some hf
  have hv0 : inR v0 := inR_of ev0 (inR_wrap _)
  refine g_istn (v := v0) (lv' := [(0, .int (i2 v0))]) X ev0 dJ6_bitCount_0f7a4_9 rfl hl (by decide) rfl (fun ls hl => ?_)
  refine lv_iload_n hx hb dJ6_bitCount_0f7a4_10 rfl (lv_at hl 0 rfl) ?_
  refine g_ldcw X kc_J6_266 dJ6_bitCount_0f7a4_11 ?_
  refine g_iand X dJ6_bitCount_0f7a4_14 ?_
  refine lv_iload_n hx hb dJ6_bitCount_0f7a4_15 rfl (lv_at hl 0 rfl) ?_
  refine g_iconst X dJ6_bitCount_0f7a4_16 ?_
  refine g_iushr X dJ6_bitCount_0f7a4_17 ?_
  refine g_ldcw X kc_J6_266 dJ6_bitCount_0f7a4_18 ?_
  refine g_iand X dJ6_bitCount_0f7a4_21 ?_
  refine g_iadd X dJ6_bitCount_0f7a4_22 ?_
  obtain ⟨v0_2, ev0_2, hf⟩ := lt_some hf
  have hv0_2 : inR v0_2 := inR_of ev0_2 (inR_wrap _)
  refine g_istn (v := v0_2) (lv' := [(0, .int (i2 v0_2))]) X ev0_2 dJ6_bitCount_0f7a4_23 rfl hl (by decide) rfl (fun ls hl => ?_)
  refine lv_iload_n hx hb dJ6_bitCount_0f7a4_24 rfl (lv_at hl 0 rfl) ?_
  refine lv_iload_n hx hb dJ6_bitCount_0f7a4_25 rfl (lv_at hl 0 rfl) ?_
  refine g_iconst X dJ6_bitCount_0f7a4_26 ?_
  refine g_iushr X dJ6_bitCount_0f7a4_27 ?_
  refine g_iadd X dJ6_bitCount_0f7a4_28 ?_
  refine g_ldcw X kc_J6_267 dJ6_bitCount_0f7a4_29 ?_
  refine g_iand X dJ6_bitCount_0f7a4_32 ?_
  obtain ⟨v0_3, ev0_3, hf⟩ := lt_some hf
  have hv0_3 : inR v0_3 := inR_of ev0_3 (inR_toInt _)
  refine g_istn (v := v0_3) (lv' := [(0, .int (i2 v0_3))]) X ev0_3 dJ6_bitCount_0f7a4_33 rfl hl (by decide) rfl (fun ls hl => ?_)
  refine lv_iload_n hx hb dJ6_bitCount_0f7a4_34 rfl (lv_at hl 0 rfl) ?_
  refine lv_iload_n hx hb dJ6_bitCount_0f7a4_35 rfl (lv_at hl 0 rfl) ?_
  refine g_bipush X dJ6_bitCount_0f7a4_36 (by decide) ?_
  refine g_iushr X dJ6_bitCount_0f7a4_38 ?_
  refine g_iadd X dJ6_bitCount_0f7a4_39 ?_
  obtain ⟨v0_4, ev0_4, hf⟩ := lt_some hf
  have hv0_4 : inR v0_4 := inR_of ev0_4 (inR_wrap _)
  refine g_istn (v := v0_4) (lv' := [(0, .int (i2 v0_4))]) X ev0_4 dJ6_bitCount_0f7a4_40 rfl hl (by decide) rfl (fun ls hl => ?_)
  refine lv_iload_n hx hb dJ6_bitCount_0f7a4_41 rfl (lv_at hl 0 rfl) ?_
  refine lv_iload_n hx hb dJ6_bitCount_0f7a4_42 rfl (lv_at hl 0 rfl) ?_
  refine g_bipush X dJ6_bitCount_0f7a4_43 (by decide) ?_
  refine g_iushr X dJ6_bitCount_0f7a4_45 ?_
  refine g_iadd X dJ6_bitCount_0f7a4_46 ?_
  obtain ⟨v0_5, ev0_5, hf⟩ := lt_some hf
  have hv0_5 : inR v0_5 := inR_of ev0_5 (inR_wrap _)
  refine g_istn (v := v0_5) (lv' := [(0, .int (i2 v0_5))]) X ev0_5 dJ6_bitCount_0f7a4_47 rfl hl (by decide) rfl (fun ls hl => ?_)
  refine lv_iload_n hx hb dJ6_bitCount_0f7a4_48 rfl (lv_at hl 0 rfl) ?_
  refine g_bipush X dJ6_bitCount_0f7a4_49 (by decide) ?_
  refine g_iand X dJ6_bitCount_0f7a4_51 ?_
  exact HR (band v0_5 63) _ _ _ _ (Option.some.inj hf).symm (inR_toInt _) w dJ6_bitCount_0f7a4_52
set_option maxRecDepth 100000 in
set_option maxHeartbeats 4000000 in
theorem k_J6_bitCount_0f7a4 {l : Launch} {D : va_G} {aC : Nat → ClassId} {ad : Nat → Nat} {sg : SG} (hi : Inj ad) (p0 : Int) (hp0 : inR p0) {M : Mem} (hM : inM M) {r : Int} (hf : f_J6_bitCount_0f7a4 p0 M = some r) : MetI l D aC ad sg yJ6_bitCount_0f7a4 cJ6_bitCount_0f7a4 1 (some .int) rm_J6_bitCount_0f7a4 0 0 [.int (i2 p0)] M r M := by
  refine MetI.ofI (by decide +kernel) (nle rfl) hi hM (fun p e s m args below meth c Q H0 ls X hl w hret => ?_)
  exact b_J6_bitCount_0f7a4_0 X  (fun r1 H locs pc ls eo hP w dg => by cases eo; exact hret H locs pc ls hP w dg) p0 hp0 hf hl w
end
section
variable {p : Program} {l : Launch} {e : Env} {s : State} {m : MethodId} {args : Array Value} {below : List Frame} {meth : Method} {c : Code} {Q : State → Prop} {D : va_G} {aC : Nat → ClassId} {ad : Nat → Nat} {sg : SG} {A : Nat → Prop} {H0 : Heap}
set_option maxRecDepth 100000 in
set_option maxHeartbeats 4000000 in
theorem b_J7_fill_53178_s5 (X : CX p s m args c cJ7_fill_53178 4 RJ7 D aC ad sg A H0) (p0 : Nat) (hp0 : KD[p0]? = some (.inr (0, aln p0))) (v1 : Int) (hv1 : inR v1) (v3 : Int) (hv3 : inR v3) {o : (Int × Mem) ⊕ (Int × Mem)} (HC : ∀ (y2 : Int) (M1 : Mem) (H : Heap) (locs : List Loc) (ls : Array Slot), o = .inl (y2, M1) → inR y2 → lv_has ls 4 [(0, .ref (ad p0)), (1, .int (i2 v1)), (2, .int (i2 y2)), (3, .int (i2 v3))] → WS D aC ad A H0 M1 H locs → W p l e rm_J7_fill_53178 s m args below meth c H locs 0 0 Q (F0 m 5 ls [])) (HE : ∀ (y2 : Int) (M1 : Mem) (H : Heap) (locs : List Loc) (ls : Array Slot), o = .inr (y2, M1) → inR y2 → lv_has ls 4 [(0, .ref (ad p0)), (1, .int (i2 v1)), (2, .int (i2 y2)), (3, .int (i2 v3))] → WS D aC ad A H0 M1 H locs → W p l e rm_J7_fill_53178 s m args below meth c H locs 0 0 Q (F0 m 20 ls [])) (v2 : Int) (hv2 : inR v2) (M : Mem) (hf : f_J7_fill_53178_s5 p0 v1 v3 v2 M = some o) {H : Heap} {locs : List Loc} {ls : Array Slot} (hl : lv_has ls 4 [(0, .ref (ad p0)), (1, .int (i2 v1)), (2, .int (i2 v2)), (3, .int (i2 v3))]) (w : WS D aC ad A H0 M H locs) : W p l e rm_J7_fill_53178 s m args below meth c H locs 0 0 Q (F0 m 5 ls []) := by
  have hx := X.1.1
  have hb := X.1.2.1
  unfold f_J7_fill_53178_s5 at hf
  refine lv_iload_n hx hb dJ7_fill_53178_5 rfl (lv_at hl 2 rfl) ?_
  refine lv_iload_n hx hb dJ7_fill_53178_6 rfl (lv_at hl 3 rfl) ?_
  refine g_icmp_ge (tgt := 20) X hv2 hv3 dJ7_fill_53178_7 (by decide) (fun cd => ?_) (fun cd => ?_)
  · replace hf := ite_t cd hf
    exact HE v2 M _ _ _ (Option.some.inj hf).symm hv2 hl w
  · replace hf := ite_f cd hf
    refine lv_aload_n hx hb dJ7_fill_53178_10 rfl (lv_at hl 0 rfl) ?_
    refine lv_iload_n hx hb dJ7_fill_53178_11 rfl (lv_at hl 2 rfl) ?_
    refine lv_iload_n hx hb dJ7_fill_53178_12 rfl (lv_at hl 1 rfl) ?_
    obtain ⟨hg, hf⟩ := gd_some hf
    obtain ⟨M_2, eM_2, hf⟩ := lt_some hf
    refine g_iast X w hp0 hv2 hg hv1 dJ7_fill_53178_13 (fun H locs w_M_2 => ?_)
    rw [← eM_2] at w_M_2
    obtain ⟨v2_2, ev2_2, hf⟩ := lt_some hf
    have hv2_2 : inR v2_2 := inR_of ev2_2 (inR_wrap _)
    refine lv_iinc (v := i2 v2_2) (lv' := [(2, .int (i2 v2_2)), (0, .ref (ad p0)), (1, .int (i2 v1)), (3, .int (i2 v3))]) hx hb dJ7_fill_53178_14 hl (k := 2) rfl (by rw [ev2_2]; exact i2_add _ _) (by decide) rfl (fun ls hl => ?_)
    refine lv_goto (tgt := 5) hx hb dJ7_fill_53178_17 (by decide) ?_
    exact HC v2_2 M_2 _ _ _ (Option.some.inj hf).symm hv2_2 (lv_sub hl [1, 2, 0, 3] rfl) w_M_2
set_option maxRecDepth 100000 in
set_option maxHeartbeats 4000000 in
theorem l_J7_fill_53178_5 (X : CX p s m args c cJ7_fill_53178 4 RJ7 D aC ad sg A H0) (p0 : Nat) (hp0 : KD[p0]? = some (.inr (0, aln p0))) (v1 : Int) (hv1 : inR v1) (v3 : Int) (hv3 : inR v3) {out : Int × Mem} (HE : ∀ (y2 : Int) (M1 : Mem) (H : Heap) (locs : List Loc) (ls : Array Slot), out = (y2, M1) → inR y2 → lv_has ls 4 [(0, .ref (ad p0)), (1, .int (i2 v1)), (2, .int (i2 y2)), (3, .int (i2 v3))] → WS D aC ad A H0 M1 H locs → W p l e rm_J7_fill_53178 s m args below meth c H locs 0 0 Q (F0 m 20 ls [])) : ∀ (n : Nat) (v2 : Int) (M : Mem), whl (fun s => f_J7_fill_53178_s5 p0 v1 v3 s.1 s.2) n (v2, M) = some out → inR v2 → ∀ {H : Heap} {locs : List Loc} {ls : Array Slot}, lv_has ls 4 [(0, .ref (ad p0)), (1, .int (i2 v1)), (2, .int (i2 v2)), (3, .int (i2 v3))] → WS D aC ad A H0 M H locs → W p l e rm_J7_fill_53178 s m args below meth c H locs 0 0 Q (F0 m 5 ls []) := by
  intro n
  induction n with
  | zero => intro v2 M hf; exact (whl_zero hf).elim
  | succ n ih =>
    intro v2 M hf hv2 H locs ls hl w
    obtain ⟨o, hf, hk1, hk2⟩ := whl_step hf
    exact b_J7_fill_53178_s5 X p0 hp0 v1 hv1 v3 hv3 (fun y2 M1 H locs ls eo hy2 hl w => ih y2 M1 (hk1 _ eo) hy2 hl w) (fun y2 M1 H locs ls eo hy2 hl w => HE y2 M1 H locs ls (hk2 _ eo).symm hy2 hl w) v2 hv2 M hf hl w
set_option maxRecDepth 100000 in
set_option maxHeartbeats 4000000 in
theorem b_J7_fill_53178_j20 (X : CX p s m args c cJ7_fill_53178 4 RJ7 D aC ad sg A H0) (p0 : Nat) (hp0 : KD[p0]? = some (.inr (0, aln p0))) {o : Mem} (HR : ∀ (M1 : Mem) (H : Heap) (locs : List Loc) (pc : Nat) (ls : Array Slot), o = M1 → WS D aC ad A H0 M1 H locs → decode cJ7_fill_53178 pc = .ok (.return_, 1) → W p l e rm_J7_fill_53178 s m args below meth c H locs 0 0 Q (F0 m pc ls [])) (M : Mem) (hf : f_J7_fill_53178_j20 p0 M = some o) {H : Heap} {locs : List Loc} {ls : Array Slot} (hl : lv_has ls 4 []) (w : WS D aC ad A H0 M H locs) : W p l e rm_J7_fill_53178 s m args below meth c H locs 0 0 Q (F0 m 20 ls []) := by
  have hx := X.1.1
  have hb := X.1.2.1
  unfold f_J7_fill_53178_j20 at hf
  exact HR M _ _ _ _ (Option.some.inj hf).symm w dJ7_fill_53178_20
set_option maxRecDepth 100000 in
set_option maxHeartbeats 4000000 in
theorem b_J7_fill_53178_0 (X : CX p s m args c cJ7_fill_53178 4 RJ7 D aC ad sg A H0) (p0 : Nat) (hp0 : KD[p0]? = some (.inr (0, aln p0))) {o : Mem} (HR : ∀ (M1 : Mem) (H : Heap) (locs : List Loc) (pc : Nat) (ls : Array Slot), o = M1 → WS D aC ad A H0 M1 H locs → decode cJ7_fill_53178 pc = .ok (.return_, 1) → W p l e rm_J7_fill_53178 s m args below meth c H locs 0 0 Q (F0 m pc ls [])) (p1 : Int) (hp1 : inR p1) (M : Mem) (hf : f_J7_fill_53178 p0 p1 M = some o) {H : Heap} {locs : List Loc} {ls : Array Slot} (hl : lv_has ls 4 [(0, .ref (ad p0)), (1, .int (i2 p1))]) (w : WS D aC ad A H0 M H locs) : W p l e rm_J7_fill_53178 s m args below meth c H locs 0 0 Q (F0 m 0 ls []) := by
  have hx := X.1.1
  have hb := X.1.2.1
  unfold f_J7_fill_53178 at hf
  refine g_iconst X dJ7_fill_53178_0 ?_
  refine g_istn (v := 0) (lv' := [(2, .int (i2 0)), (0, .ref (ad p0)), (1, .int (i2 p1))]) X rfl dJ7_fill_53178_1 rfl hl (by decide) rfl (fun ls hl => ?_)
  refine lv_aload_n hx hb dJ7_fill_53178_2 rfl (lv_at hl 1 rfl) ?_
  refine g_alen X w hp0 (by decide) dJ7_fill_53178_3 ?_
  obtain ⟨v3, ev3, hf⟩ := lt_some hf
  have hv3 : inR v3 := inR_of ev3 (aln_R _)
  refine g_istn (v := v3) (lv' := [(3, .int (i2 v3)), (2, .int (i2 0)), (0, .ref (ad p0)), (1, .int (i2 p1))]) X ev3 dJ7_fill_53178_4 rfl hl (by decide) rfl (fun ls hl => ?_)
  obtain ⟨q, hq, h1⟩ := obn_some hf
  exact l_J7_fill_53178_5 X p0 hp0 p1 hp1 v3 hv3 (out := q) (fun y2 M1 H locs ls eq hy2 hl w => b_J7_fill_53178_j20 X p0 hp0 HR M1 (by subst eq; exact h1) (lv_sub hl [] rfl) w)  FU 0 M hq (inL rfl) (lv_sub hl [2, 3, 1, 0] rfl) w
set_option maxRecDepth 100000 in
set_option maxHeartbeats 4000000 in
theorem k_J7_fill_53178 {l : Launch} {D : va_G} {aC : Nat → ClassId} {ad : Nat → Nat} {sg : SG} (hi : Inj ad) (p0 : Nat) (hp0 : KD[p0]? = some (.inr (0, aln p0))) (p1 : Int) (hp1 : inR p1) {M : Mem} (hM : inM M) {M' : Mem} (hf : f_J7_fill_53178 p0 p1 M = some M') : MetV l D aC ad sg yJ7_fill_53178 cJ7_fill_53178 4 rm_J7_fill_53178 0 0 [.ref (ad p0), .int (i2 p1)] M M' := by
  refine MetV.of (by decide +kernel) (nle rfl) hi hM (fun p e s m args below meth c Q H0 ls X hl w hret => ?_)
  exact b_J7_fill_53178_0 X p0 hp0 (fun M1 H locs pc ls eo w dg => by cases eo; exact hret H locs pc ls w dg) p1 hp1 M hf hl w
end
section
variable {p : Program} {l : Launch} {e : Env} {s : State} {m : MethodId} {args : Array Value} {below : List Frame} {meth : Method} {c : Code} {Q : State → Prop} {D : va_G} {aC : Nat → ClassId} {ad : Nat → Nat} {sg : SG} {A : Nat → Prop} {H0 : Heap}
set_option maxRecDepth 100000 in
set_option maxHeartbeats 4000000 in
theorem b_X1_has_0 (X : CX p s m args c cX1_has 2 RX1 D aC ad sg A H0) {M : Mem} {o : Int} (HR : ∀ (r : Int) (H : Heap) (locs : List Loc) (pc : Nat) (ls : Array Slot), o = r → isZ r → WS D aC ad A H0 M H locs → decode cX1_has pc = .ok (.ireturn, 1) → W p l e rm_X1_has s m args below meth c H locs 0 0 Q (F0 m pc ls [.int (i2 r)])) (p1 : Int) (hp1 : inR p1) (hf : f_X1_has p1 M = some o) {H : Heap} {locs : List Loc} {ls : Array Slot} (hl : lv_has ls 2 [(0, .ref (ad 3)), (1, .int (i2 p1))]) (w : WS D aC ad A H0 M H locs) : W p l e rm_X1_has s m args below meth c H locs 0 0 Q (F0 m 0 ls []) := by
  have hx := X.1.1
  have hb := X.1.2.1
  unfold f_X1_has at hf
  refine lv_iload_n hx hb dX1_has_0 rfl (lv_at hl 1 rfl) ?_
  refine g_if_lt (tgt := 16) X hp1 dX1_has_1 (by decide) (fun cd => ?_) (fun cd => ?_)
  · replace hf := ite_t cd hf
    refine g_iconst X dX1_has_16 ?_
    exact HR 0 _ _ _ _ (Option.some.inj hf).symm (Or.inl rfl) w dX1_has_17
  · replace hf := ite_f cd hf
    refine lv_iload_n hx hb dX1_has_4 rfl (lv_at hl 1 rfl) ?_
    refine lv_aload_n hx hb dX1_has_5 rfl (lv_at hl 0 rfl) ?_
    refine g_geti X w fg_X1_61 KD_3 FR_3_0 dX1_has_6 ?_
    refine g_icmp_ge (tgt := 16) X hp1 (w.2.2 _ _) dX1_has_9 (by decide) (fun cd_2 => ?_) (fun cd_2 => ?_)
    · replace hf := ite_t cd_2 hf
      refine g_iconst X dX1_has_16 ?_
      exact HR 0 _ _ _ _ (Option.some.inj hf).symm (Or.inl rfl) w dX1_has_17
    · replace hf := ite_f cd_2 hf
      refine g_iconst X dX1_has_12 ?_
      refine lv_goto (tgt := 17) hx hb dX1_has_13 (by decide) ?_
      exact HR 1 _ _ _ _ (Option.some.inj hf).symm (Or.inr rfl) w dX1_has_17
set_option maxRecDepth 100000 in
set_option maxHeartbeats 4000000 in
theorem k_X1_has {l : Launch} {D : va_G} {aC : Nat → ClassId} {ad : Nat → Nat} {sg : SG} (hi : Inj ad) (p1 : Int) (hp1 : inR p1) {M : Mem} (hM : inM M) {r : Int} (hf : f_X1_has p1 M = some r) : MetI l D aC ad sg yX1_has cX1_has 2 (some .boolean) rm_X1_has 0 0 [.ref (ad 3), .int (i2 p1)] M r M := by
  refine MetI.ofZ (by decide +kernel) (nle rfl) hi hM (fun p e s m args below meth c Q H0 ls X hl w hret => ?_)
  exact b_X1_has_0 X  (fun r1 H locs pc ls eo hP w dg => by cases eo; exact hret H locs pc ls hP w dg) p1 hp1 hf hl w
set_option maxRecDepth 100000 in
set_option maxHeartbeats 4000000 in
theorem b_X1_cameBy_s4 (X : CX p s m args c cX1_cameBy 4 RX1 D aC ad sg A H0) (v1 : Int) (hv1 : inR v1) {M : Mem} {o : (Int × Int) ⊕ (Int × Int)} (HC : ∀ (y2 : Int) (y3 : Int) (H : Heap) (locs : List Loc) (ls : Array Slot), o = .inl (y2, y3) → inR y2 → inR y3 → lv_has ls 4 [(0, .ref (ad 3)), (1, .int (i2 v1)), (2, .int (i2 y2)), (3, .int (i2 y3))] → WS D aC ad A H0 M H locs → W p l e rm_X1_cameBy s m args below meth c H locs 0 0 Q (F0 m 4 ls [])) (HE : ∀ (y2 : Int) (y3 : Int) (H : Heap) (locs : List Loc) (ls : Array Slot), o = .inr (y2, y3) → inR y2 → inR y3 → lv_has ls 4 [(0, .ref (ad 3)), (1, .int (i2 v1)), (2, .int (i2 y2)), (3, .int (i2 y3))] → WS D aC ad A H0 M H locs → W p l e rm_X1_cameBy s m args below meth c H locs 0 0 Q (F0 m 31 ls [])) (v2 : Int) (hv2 : inR v2) (v3 : Int) (hv3 : inR v3) (hf : f_X1_cameBy_s4 v1 M v2 v3 = some o) {H : Heap} {locs : List Loc} {ls : Array Slot} (hl : lv_has ls 4 [(0, .ref (ad 3)), (1, .int (i2 v1)), (2, .int (i2 v2)), (3, .int (i2 v3))]) (w : WS D aC ad A H0 M H locs) : W p l e rm_X1_cameBy s m args below meth c H locs 0 0 Q (F0 m 4 ls []) := by
  have hx := X.1.1
  have hb := X.1.2.1
  unfold f_X1_cameBy_s4 at hf
  refine lv_iload_n hx hb dX1_cameBy_4 rfl (lv_at hl 3 rfl) ?_
  refine lv_aload_n hx hb dX1_cameBy_5 rfl (lv_at hl 0 rfl) ?_
  refine g_geti X w fg_X1_61 KD_3 FR_3_0 dX1_cameBy_6 ?_
  refine g_icmp_ge (tgt := 31) X hv3 (w.2.2 _ _) dX1_cameBy_9 (by decide) (fun cd => ?_) (fun cd => ?_)
  · replace hf := ite_t cd hf
    exact HE v2 v3 _ _ _ (Option.some.inj hf).symm hv2 hv3 hl w
  · replace hf := ite_f cd hf
    refine lv_aload_n hx hb dX1_cameBy_12 rfl (lv_at hl 0 rfl) ?_
    refine g_getr X w fg_X1_21 KD_3 FR_3_4 dX1_cameBy_13 ?_
    refine lv_iload_n hx hb dX1_cameBy_16 rfl (lv_at hl 3 rfl) ?_
    obtain ⟨hg, hf⟩ := gd_some hf
    refine g_iald X w KD_7 hv3 hg dX1_cameBy_17 ?_
    refine lv_iload_n hx hb dX1_cameBy_18 rfl (lv_at hl 1 rfl) ?_
    refine g_icmp_gt (tgt := 25) X (w.2.2 _ _) hv1 dX1_cameBy_19 (by decide) (fun cd_2 => ?_) (fun cd_2 => ?_)
    · replace hf := ite_t cd_2 hf
      obtain ⟨v3_2, ev3_2, hf⟩ := lt_some hf
      have hv3_2 : inR v3_2 := inR_of ev3_2 (inR_wrap _)
      refine lv_iinc (v := i2 v3_2) (lv' := [(3, .int (i2 v3_2)), (0, .ref (ad 3)), (1, .int (i2 v1)), (2, .int (i2 v2))]) hx hb dX1_cameBy_25 hl (k := 3) rfl (by rw [ev3_2]; exact i2_add _ _) (by decide) rfl (fun ls hl => ?_)
      refine lv_goto (tgt := 4) hx hb dX1_cameBy_28 (by decide) ?_
      exact HC v2 v3_2 _ _ _ (Option.some.inj hf).symm hv2 hv3_2 (lv_sub hl [1, 2, 3, 0] rfl) w
    · replace hf := ite_f cd_2 hf
      obtain ⟨v2_2, ev2_2, hf⟩ := lt_some hf
      have hv2_2 : inR v2_2 := inR_of ev2_2 (inR_wrap _)
      refine lv_iinc (v := i2 v2_2) (lv' := [(2, .int (i2 v2_2)), (0, .ref (ad 3)), (1, .int (i2 v1)), (3, .int (i2 v3))]) hx hb dX1_cameBy_22 hl (k := 2) rfl (by rw [ev2_2]; exact i2_add _ _) (by decide) rfl (fun ls hl => ?_)
      obtain ⟨v3_3, ev3_3, hf⟩ := lt_some hf
      have hv3_3 : inR v3_3 := inR_of ev3_3 (inR_wrap _)
      refine lv_iinc (v := i2 v3_3) (lv' := [(3, .int (i2 v3_3)), (2, .int (i2 v2_2)), (0, .ref (ad 3)), (1, .int (i2 v1))]) hx hb dX1_cameBy_25 hl (k := 3) rfl (by rw [ev3_3]; exact i2_add _ _) (by decide) rfl (fun ls hl => ?_)
      refine lv_goto (tgt := 4) hx hb dX1_cameBy_28 (by decide) ?_
      exact HC v2_2 v3_3 _ _ _ (Option.some.inj hf).symm hv2_2 hv3_3 (lv_sub hl [2, 3, 1, 0] rfl) w
set_option maxRecDepth 100000 in
set_option maxHeartbeats 4000000 in
theorem l_X1_cameBy_4 (X : CX p s m args c cX1_cameBy 4 RX1 D aC ad sg A H0) (v1 : Int) (hv1 : inR v1) {M : Mem} {out : Int × Int} (HE : ∀ (y2 : Int) (y3 : Int) (H : Heap) (locs : List Loc) (ls : Array Slot), out = (y2, y3) → inR y2 → inR y3 → lv_has ls 4 [(0, .ref (ad 3)), (1, .int (i2 v1)), (2, .int (i2 y2)), (3, .int (i2 y3))] → WS D aC ad A H0 M H locs → W p l e rm_X1_cameBy s m args below meth c H locs 0 0 Q (F0 m 31 ls [])) : ∀ (n : Nat) (v2 : Int) (v3 : Int), whl (fun s => f_X1_cameBy_s4 v1 M s.1 s.2) n (v2, v3) = some out → inR v2 → inR v3 → ∀ {H : Heap} {locs : List Loc} {ls : Array Slot}, lv_has ls 4 [(0, .ref (ad 3)), (1, .int (i2 v1)), (2, .int (i2 v2)), (3, .int (i2 v3))] → WS D aC ad A H0 M H locs → W p l e rm_X1_cameBy s m args below meth c H locs 0 0 Q (F0 m 4 ls []) := by
  intro n
  induction n with
  | zero => intro v2 v3 hf; exact (whl_zero hf).elim
  | succ n ih =>
    intro v2 v3 hf hv2 hv3 H locs ls hl w
    obtain ⟨o, hf, hk1, hk2⟩ := whl_step hf
    exact b_X1_cameBy_s4 X v1 hv1 (fun y2 y3 H locs ls eo hy2 hy3 hl w => ih y2 y3 (hk1 _ eo) hy2 hy3 hl w) (fun y2 y3 H locs ls eo hy2 hy3 hl w => HE y2 y3 H locs ls (hk2 _ eo).symm hy2 hy3 hl w) v2 hv2 v3 hv3 hf hl w
set_option maxRecDepth 100000 in
set_option maxHeartbeats 4000000 in
theorem b_X1_cameBy_j31 (X : CX p s m args c cX1_cameBy 4 RX1 D aC ad sg A H0) {M : Mem} {o : Int} (HR : ∀ (r : Int) (H : Heap) (locs : List Loc) (pc : Nat) (ls : Array Slot), o = r → inR r → WS D aC ad A H0 M H locs → decode cX1_cameBy pc = .ok (.ireturn, 1) → W p l e rm_X1_cameBy s m args below meth c H locs 0 0 Q (F0 m pc ls [.int (i2 r)])) (v2 : Int) (hv2 : inR v2) (hf : f_X1_cameBy_j31 v2 M = some o) {H : Heap} {locs : List Loc} {ls : Array Slot} (hl : lv_has ls 4 [(2, .int (i2 v2))]) (w : WS D aC ad A H0 M H locs) : W p l e rm_X1_cameBy s m args below meth c H locs 0 0 Q (F0 m 31 ls []) := by
  have hx := X.1.1
  have hb := X.1.2.1
  unfold f_X1_cameBy_j31 at hf
  refine lv_iload_n hx hb dX1_cameBy_31 rfl (lv_at hl 0 rfl) ?_
  exact HR v2 _ _ _ _ (Option.some.inj hf).symm hv2 w dX1_cameBy_32
set_option maxRecDepth 100000 in
set_option maxHeartbeats 4000000 in
theorem b_X1_cameBy_0 (X : CX p s m args c cX1_cameBy 4 RX1 D aC ad sg A H0) {M : Mem} {o : Int} (HR : ∀ (r : Int) (H : Heap) (locs : List Loc) (pc : Nat) (ls : Array Slot), o = r → inR r → WS D aC ad A H0 M H locs → decode cX1_cameBy pc = .ok (.ireturn, 1) → W p l e rm_X1_cameBy s m args below meth c H locs 0 0 Q (F0 m pc ls [.int (i2 r)])) (p1 : Int) (hp1 : inR p1) (hf : f_X1_cameBy p1 M = some o) {H : Heap} {locs : List Loc} {ls : Array Slot} (hl : lv_has ls 4 [(0, .ref (ad 3)), (1, .int (i2 p1))]) (w : WS D aC ad A H0 M H locs) : W p l e rm_X1_cameBy s m args below meth c H locs 0 0 Q (F0 m 0 ls []) := by
  have hx := X.1.1
  have hb := X.1.2.1
  unfold f_X1_cameBy at hf
  refine g_iconst X dX1_cameBy_0 ?_
  refine g_istn (v := 0) (lv' := [(2, .int (i2 0)), (0, .ref (ad 3)), (1, .int (i2 p1))]) X rfl dX1_cameBy_1 rfl hl (by decide) rfl (fun ls hl => ?_)
  refine g_iconst X dX1_cameBy_2 ?_
  refine g_istn (v := 0) (lv' := [(3, .int (i2 0)), (2, .int (i2 0)), (0, .ref (ad 3)), (1, .int (i2 p1))]) X rfl dX1_cameBy_3 rfl hl (by decide) rfl (fun ls hl => ?_)
  obtain ⟨q, hq, h1⟩ := obn_some hf
  exact l_X1_cameBy_4 X p1 hp1 (out := q) (fun y2 y3 H locs ls eq hy2 hy3 hl w => b_X1_cameBy_j31 X  HR y2 hy2 (by subst eq; exact h1) (lv_sub hl [2] rfl) w)  FU 0 0 hq (inL rfl) (inL rfl) (lv_sub hl [2, 3, 1, 0] rfl) w
set_option maxRecDepth 100000 in
set_option maxHeartbeats 4000000 in
theorem k_X1_cameBy {l : Launch} {D : va_G} {aC : Nat → ClassId} {ad : Nat → Nat} {sg : SG} (hi : Inj ad) (p1 : Int) (hp1 : inR p1) {M : Mem} (hM : inM M) {r : Int} (hf : f_X1_cameBy p1 M = some r) : MetI l D aC ad sg yX1_cameBy cX1_cameBy 4 (some .int) rm_X1_cameBy 0 0 [.ref (ad 3), .int (i2 p1)] M r M := by
  refine MetI.ofI (by decide +kernel) (nle rfl) hi hM (fun p e s m args below meth c Q H0 ls X hl w hret => ?_)
  exact b_X1_cameBy_0 X  (fun r1 H locs pc ls eo hP w dg => by cases eo; exact hret H locs pc ls hP w dg) p1 hp1 hf hl w
set_option maxRecDepth 100000 in
set_option maxHeartbeats 4000000 in
theorem b_X1_toldWishes_s4 (X : CX p s m args c cX1_toldWishes 4 RX1 D aC ad sg A H0) (v1 : Int) (hv1 : inR v1) {M : Mem} {o : (Int × Int) ⊕ (Int × Int)} (HC : ∀ (y2 : Int) (y3 : Int) (H : Heap) (locs : List Loc) (ls : Array Slot), o = .inl (y2, y3) → inR y2 → inR y3 → lv_has ls 4 [(0, .ref (ad 3)), (1, .int (i2 v1)), (2, .int (i2 y2)), (3, .int (i2 y3))] → WS D aC ad A H0 M H locs → W p l e rm_X1_toldWishes s m args below meth c H locs 0 0 Q (F0 m 4 ls [])) (HE : ∀ (y2 : Int) (y3 : Int) (H : Heap) (locs : List Loc) (ls : Array Slot), o = .inr (y2, y3) → inR y2 → inR y3 → lv_has ls 4 [(0, .ref (ad 3)), (1, .int (i2 v1)), (2, .int (i2 y2)), (3, .int (i2 y3))] → WS D aC ad A H0 M H locs → W p l e rm_X1_toldWishes s m args below meth c H locs 0 0 Q (F0 m 32 ls [])) (v2 : Int) (hv2 : inR v2) (v3 : Int) (hv3 : inR v3) (hf : f_X1_toldWishes_s4 v1 M v2 v3 = some o) {H : Heap} {locs : List Loc} {ls : Array Slot} (hl : lv_has ls 4 [(0, .ref (ad 3)), (1, .int (i2 v1)), (2, .int (i2 v2)), (3, .int (i2 v3))]) (w : WS D aC ad A H0 M H locs) : W p l e rm_X1_toldWishes s m args below meth c H locs 0 0 Q (F0 m 4 ls []) := by
  have hx := X.1.1
  have hb := X.1.2.1
  unfold f_X1_toldWishes_s4 at hf
  refine lv_iload_n hx hb dX1_toldWishes_4 rfl (lv_at hl 3 rfl) ?_
  refine g_iconst X dX1_toldWishes_5 ?_
  refine g_icmp_ge (tgt := 32) X hv3 (inL rfl) dX1_toldWishes_6 (by decide) (fun cd => ?_) (fun cd => ?_)
  · replace hf := ite_t cd hf
    exact HE v2 v3 _ _ _ (Option.some.inj hf).symm hv2 hv3 hl w
  · replace hf := ite_f cd hf
    refine lv_aload_n hx hb dX1_toldWishes_9 rfl (lv_at hl 0 rfl) ?_
    refine g_getr X w fg_X1_27 KD_3 FR_3_6 dX1_toldWishes_10 ?_
    refine lv_iload_n hx hb dX1_toldWishes_13 rfl (lv_at hl 1 rfl) ?_
    refine g_iconst X dX1_toldWishes_14 ?_
    refine g_imul X dX1_toldWishes_15 ?_
    refine lv_iload_n hx hb dX1_toldWishes_16 rfl (lv_at hl 3 rfl) ?_
    refine g_iadd X dX1_toldWishes_17 ?_
    obtain ⟨hg, hf⟩ := gd_some hf
    refine g_iald X w KD_9 (inR_wrap _) hg dX1_toldWishes_18 ?_
    refine g_iconst X dX1_toldWishes_19 ?_
    refine g_icmp_eq (tgt := 26) X (w.2.2 _ _) (inL rfl) dX1_toldWishes_20 (by decide) (fun cd_2 => ?_) (fun cd_2 => ?_)
    · replace hf := ite_t cd_2 hf
      obtain ⟨v3_2, ev3_2, hf⟩ := lt_some hf
      have hv3_2 : inR v3_2 := inR_of ev3_2 (inR_wrap _)
      refine lv_iinc (v := i2 v3_2) (lv' := [(3, .int (i2 v3_2)), (0, .ref (ad 3)), (1, .int (i2 v1)), (2, .int (i2 v2))]) hx hb dX1_toldWishes_26 hl (k := 3) rfl (by rw [ev3_2]; exact i2_add _ _) (by decide) rfl (fun ls hl => ?_)
      refine lv_goto (tgt := 4) hx hb dX1_toldWishes_29 (by decide) ?_
      exact HC v2 v3_2 _ _ _ (Option.some.inj hf).symm hv2 hv3_2 (lv_sub hl [1, 2, 3, 0] rfl) w
    · replace hf := ite_f cd_2 hf
      obtain ⟨v2_2, ev2_2, hf⟩ := lt_some hf
      have hv2_2 : inR v2_2 := inR_of ev2_2 (inR_wrap _)
      refine lv_iinc (v := i2 v2_2) (lv' := [(2, .int (i2 v2_2)), (0, .ref (ad 3)), (1, .int (i2 v1)), (3, .int (i2 v3))]) hx hb dX1_toldWishes_23 hl (k := 2) rfl (by rw [ev2_2]; exact i2_add _ _) (by decide) rfl (fun ls hl => ?_)
      obtain ⟨v3_3, ev3_3, hf⟩ := lt_some hf
      have hv3_3 : inR v3_3 := inR_of ev3_3 (inR_wrap _)
      refine lv_iinc (v := i2 v3_3) (lv' := [(3, .int (i2 v3_3)), (2, .int (i2 v2_2)), (0, .ref (ad 3)), (1, .int (i2 v1))]) hx hb dX1_toldWishes_26 hl (k := 3) rfl (by rw [ev3_3]; exact i2_add _ _) (by decide) rfl (fun ls hl => ?_)
      refine lv_goto (tgt := 4) hx hb dX1_toldWishes_29 (by decide) ?_
      exact HC v2_2 v3_3 _ _ _ (Option.some.inj hf).symm hv2_2 hv3_3 (lv_sub hl [2, 3, 1, 0] rfl) w
set_option maxRecDepth 100000 in
set_option maxHeartbeats 4000000 in
theorem l_X1_toldWishes_4 (X : CX p s m args c cX1_toldWishes 4 RX1 D aC ad sg A H0) (v1 : Int) (hv1 : inR v1) {M : Mem} {out : Int × Int} (HE : ∀ (y2 : Int) (y3 : Int) (H : Heap) (locs : List Loc) (ls : Array Slot), out = (y2, y3) → inR y2 → inR y3 → lv_has ls 4 [(0, .ref (ad 3)), (1, .int (i2 v1)), (2, .int (i2 y2)), (3, .int (i2 y3))] → WS D aC ad A H0 M H locs → W p l e rm_X1_toldWishes s m args below meth c H locs 0 0 Q (F0 m 32 ls [])) : ∀ (n : Nat) (v2 : Int) (v3 : Int), whl (fun s => f_X1_toldWishes_s4 v1 M s.1 s.2) n (v2, v3) = some out → inR v2 → inR v3 → ∀ {H : Heap} {locs : List Loc} {ls : Array Slot}, lv_has ls 4 [(0, .ref (ad 3)), (1, .int (i2 v1)), (2, .int (i2 v2)), (3, .int (i2 v3))] → WS D aC ad A H0 M H locs → W p l e rm_X1_toldWishes s m args below meth c H locs 0 0 Q (F0 m 4 ls []) := by
  intro n
  induction n with
  | zero => intro v2 v3 hf; exact (whl_zero hf).elim
  | succ n ih =>
    intro v2 v3 hf hv2 hv3 H locs ls hl w
    obtain ⟨o, hf, hk1, hk2⟩ := whl_step hf
    exact b_X1_toldWishes_s4 X v1 hv1 (fun y2 y3 H locs ls eo hy2 hy3 hl w => ih y2 y3 (hk1 _ eo) hy2 hy3 hl w) (fun y2 y3 H locs ls eo hy2 hy3 hl w => HE y2 y3 H locs ls (hk2 _ eo).symm hy2 hy3 hl w) v2 hv2 v3 hv3 hf hl w
set_option maxRecDepth 100000 in
set_option maxHeartbeats 4000000 in
theorem b_X1_toldWishes_j32 (X : CX p s m args c cX1_toldWishes 4 RX1 D aC ad sg A H0) {M : Mem} {o : Int} (HR : ∀ (r : Int) (H : Heap) (locs : List Loc) (pc : Nat) (ls : Array Slot), o = r → inR r → WS D aC ad A H0 M H locs → decode cX1_toldWishes pc = .ok (.ireturn, 1) → W p l e rm_X1_toldWishes s m args below meth c H locs 0 0 Q (F0 m pc ls [.int (i2 r)])) (v2 : Int) (hv2 : inR v2) (hf : f_X1_toldWishes_j32 v2 M = some o) {H : Heap} {locs : List Loc} {ls : Array Slot} (hl : lv_has ls 4 [(2, .int (i2 v2))]) (w : WS D aC ad A H0 M H locs) : W p l e rm_X1_toldWishes s m args below meth c H locs 0 0 Q (F0 m 32 ls []) := by
  have hx := X.1.1
  have hb := X.1.2.1
  unfold f_X1_toldWishes_j32 at hf
  refine lv_iload_n hx hb dX1_toldWishes_32 rfl (lv_at hl 0 rfl) ?_
  exact HR v2 _ _ _ _ (Option.some.inj hf).symm hv2 w dX1_toldWishes_33
set_option maxRecDepth 100000 in
set_option maxHeartbeats 4000000 in
theorem b_X1_toldWishes_0 (X : CX p s m args c cX1_toldWishes 4 RX1 D aC ad sg A H0) {M : Mem} {o : Int} (HR : ∀ (r : Int) (H : Heap) (locs : List Loc) (pc : Nat) (ls : Array Slot), o = r → inR r → WS D aC ad A H0 M H locs → decode cX1_toldWishes pc = .ok (.ireturn, 1) → W p l e rm_X1_toldWishes s m args below meth c H locs 0 0 Q (F0 m pc ls [.int (i2 r)])) (p1 : Int) (hp1 : inR p1) (hf : f_X1_toldWishes p1 M = some o) {H : Heap} {locs : List Loc} {ls : Array Slot} (hl : lv_has ls 4 [(0, .ref (ad 3)), (1, .int (i2 p1))]) (w : WS D aC ad A H0 M H locs) : W p l e rm_X1_toldWishes s m args below meth c H locs 0 0 Q (F0 m 0 ls []) := by
  have hx := X.1.1
  have hb := X.1.2.1
  unfold f_X1_toldWishes at hf
  refine g_iconst X dX1_toldWishes_0 ?_
  refine g_istn (v := 0) (lv' := [(2, .int (i2 0)), (0, .ref (ad 3)), (1, .int (i2 p1))]) X rfl dX1_toldWishes_1 rfl hl (by decide) rfl (fun ls hl => ?_)
  refine g_iconst X dX1_toldWishes_2 ?_
  refine g_istn (v := 0) (lv' := [(3, .int (i2 0)), (2, .int (i2 0)), (0, .ref (ad 3)), (1, .int (i2 p1))]) X rfl dX1_toldWishes_3 rfl hl (by decide) rfl (fun ls hl => ?_)
  obtain ⟨q, hq, h1⟩ := obn_some hf
  exact l_X1_toldWishes_4 X p1 hp1 (out := q) (fun y2 y3 H locs ls eq hy2 hy3 hl w => b_X1_toldWishes_j32 X  HR y2 hy2 (by subst eq; exact h1) (lv_sub hl [2] rfl) w)  FU 0 0 hq (inL rfl) (inL rfl) (lv_sub hl [2, 3, 1, 0] rfl) w
set_option maxRecDepth 100000 in
set_option maxHeartbeats 4000000 in
theorem k_X1_toldWishes {l : Launch} {D : va_G} {aC : Nat → ClassId} {ad : Nat → Nat} {sg : SG} (hi : Inj ad) (p1 : Int) (hp1 : inR p1) {M : Mem} (hM : inM M) {r : Int} (hf : f_X1_toldWishes p1 M = some r) : MetI l D aC ad sg yX1_toldWishes cX1_toldWishes 4 (some .int) rm_X1_toldWishes 0 0 [.ref (ad 3), .int (i2 p1)] M r M := by
  refine MetI.ofI (by decide +kernel) (nle rfl) hi hM (fun p e s m args below meth c Q H0 ls X hl w hret => ?_)
  exact b_X1_toldWishes_0 X  (fun r1 H locs pc ls eo hP w dg => by cases eo; exact hret H locs pc ls hP w dg) p1 hp1 hf hl w
set_option maxRecDepth 100000 in
set_option maxHeartbeats 4000000 in
theorem b_X1_naming_s4 (X : CX p s m args c cX1_naming 4 RX1 D aC ad sg A H0) (v1 : Int) (hv1 : inR v1) {M : Mem} {o : (Int × Int) ⊕ (Int × Int)} (HC : ∀ (y2 : Int) (y3 : Int) (H : Heap) (locs : List Loc) (ls : Array Slot), o = .inl (y2, y3) → inR y2 → inR y3 → lv_has ls 4 [(0, .ref (ad 3)), (1, .int (i2 v1)), (2, .int (i2 y2)), (3, .int (i2 y3))] → WS D aC ad A H0 M H locs → W p l e rm_X1_naming s m args below meth c H locs 0 0 Q (F0 m 4 ls [])) (HE : ∀ (y2 : Int) (y3 : Int) (H : Heap) (locs : List Loc) (ls : Array Slot), o = .inr (y2, y3) → inR y2 → inR y3 → lv_has ls 4 [(0, .ref (ad 3)), (1, .int (i2 v1)), (2, .int (i2 y2)), (3, .int (i2 y3))] → WS D aC ad A H0 M H locs → W p l e rm_X1_naming s m args below meth c H locs 0 0 Q (F0 m 33 ls [])) (v2 : Int) (hv2 : inR v2) (v3 : Int) (hv3 : inR v3) (hf : f_X1_naming_s4 v1 M v2 v3 = some o) {H : Heap} {locs : List Loc} {ls : Array Slot} (hl : lv_has ls 4 [(0, .ref (ad 3)), (1, .int (i2 v1)), (2, .int (i2 v2)), (3, .int (i2 v3))]) (w : WS D aC ad A H0 M H locs) : W p l e rm_X1_naming s m args below meth c H locs 0 0 Q (F0 m 4 ls []) := by
  have hx := X.1.1
  have hb := X.1.2.1
  unfold f_X1_naming_s4 at hf
  refine lv_iload_n hx hb dX1_naming_4 rfl (lv_at hl 3 rfl) ?_
  refine lv_aload_n hx hb dX1_naming_5 rfl (lv_at hl 0 rfl) ?_
  refine g_geti X w fg_X1_61 KD_3 FR_3_0 dX1_naming_6 ?_
  refine g_iconst X dX1_naming_9 ?_
  refine g_imul X dX1_naming_10 ?_
  refine g_icmp_ge (tgt := 33) X hv3 (inR_wrap _) dX1_naming_11 (by decide) (fun cd => ?_) (fun cd => ?_)
  · replace hf := ite_t cd hf
    exact HE v2 v3 _ _ _ (Option.some.inj hf).symm hv2 hv3 hl w
  · replace hf := ite_f cd hf
    refine lv_aload_n hx hb dX1_naming_14 rfl (lv_at hl 0 rfl) ?_
    refine g_getr X w fg_X1_27 KD_3 FR_3_6 dX1_naming_15 ?_
    refine lv_iload_n hx hb dX1_naming_18 rfl (lv_at hl 3 rfl) ?_
    obtain ⟨hg, hf⟩ := gd_some hf
    refine g_iald X w KD_9 hv3 hg dX1_naming_19 ?_
    refine lv_iload_n hx hb dX1_naming_20 rfl (lv_at hl 1 rfl) ?_
    refine g_icmp_ne (tgt := 27) X (w.2.2 _ _) hv1 dX1_naming_21 (by decide) (fun cd_2 => ?_) (fun cd_2 => ?_)
    · replace hf := ite_f cd_2 hf
      obtain ⟨v3_2, ev3_2, hf⟩ := lt_some hf
      have hv3_2 : inR v3_2 := inR_of ev3_2 (inR_wrap _)
      refine lv_iinc (v := i2 v3_2) (lv' := [(3, .int (i2 v3_2)), (0, .ref (ad 3)), (1, .int (i2 v1)), (2, .int (i2 v2))]) hx hb dX1_naming_27 hl (k := 3) rfl (by rw [ev3_2]; exact i2_add _ _) (by decide) rfl (fun ls hl => ?_)
      refine lv_goto (tgt := 4) hx hb dX1_naming_30 (by decide) ?_
      exact HC v2 v3_2 _ _ _ (Option.some.inj hf).symm hv2 hv3_2 (lv_sub hl [1, 2, 3, 0] rfl) w
    · replace hf := ite_t cd_2 hf
      obtain ⟨v2_2, ev2_2, hf⟩ := lt_some hf
      have hv2_2 : inR v2_2 := inR_of ev2_2 (inR_wrap _)
      refine lv_iinc (v := i2 v2_2) (lv' := [(2, .int (i2 v2_2)), (0, .ref (ad 3)), (1, .int (i2 v1)), (3, .int (i2 v3))]) hx hb dX1_naming_24 hl (k := 2) rfl (by rw [ev2_2]; exact i2_add _ _) (by decide) rfl (fun ls hl => ?_)
      obtain ⟨v3_3, ev3_3, hf⟩ := lt_some hf
      have hv3_3 : inR v3_3 := inR_of ev3_3 (inR_wrap _)
      refine lv_iinc (v := i2 v3_3) (lv' := [(3, .int (i2 v3_3)), (2, .int (i2 v2_2)), (0, .ref (ad 3)), (1, .int (i2 v1))]) hx hb dX1_naming_27 hl (k := 3) rfl (by rw [ev3_3]; exact i2_add _ _) (by decide) rfl (fun ls hl => ?_)
      refine lv_goto (tgt := 4) hx hb dX1_naming_30 (by decide) ?_
      exact HC v2_2 v3_3 _ _ _ (Option.some.inj hf).symm hv2_2 hv3_3 (lv_sub hl [2, 3, 1, 0] rfl) w
set_option maxRecDepth 100000 in
set_option maxHeartbeats 4000000 in
theorem l_X1_naming_4 (X : CX p s m args c cX1_naming 4 RX1 D aC ad sg A H0) (v1 : Int) (hv1 : inR v1) {M : Mem} {out : Int × Int} (HE : ∀ (y2 : Int) (y3 : Int) (H : Heap) (locs : List Loc) (ls : Array Slot), out = (y2, y3) → inR y2 → inR y3 → lv_has ls 4 [(0, .ref (ad 3)), (1, .int (i2 v1)), (2, .int (i2 y2)), (3, .int (i2 y3))] → WS D aC ad A H0 M H locs → W p l e rm_X1_naming s m args below meth c H locs 0 0 Q (F0 m 33 ls [])) : ∀ (n : Nat) (v2 : Int) (v3 : Int), whl (fun s => f_X1_naming_s4 v1 M s.1 s.2) n (v2, v3) = some out → inR v2 → inR v3 → ∀ {H : Heap} {locs : List Loc} {ls : Array Slot}, lv_has ls 4 [(0, .ref (ad 3)), (1, .int (i2 v1)), (2, .int (i2 v2)), (3, .int (i2 v3))] → WS D aC ad A H0 M H locs → W p l e rm_X1_naming s m args below meth c H locs 0 0 Q (F0 m 4 ls []) := by
  intro n
  induction n with
  | zero => intro v2 v3 hf; exact (whl_zero hf).elim
  | succ n ih =>
    intro v2 v3 hf hv2 hv3 H locs ls hl w
    obtain ⟨o, hf, hk1, hk2⟩ := whl_step hf
    exact b_X1_naming_s4 X v1 hv1 (fun y2 y3 H locs ls eo hy2 hy3 hl w => ih y2 y3 (hk1 _ eo) hy2 hy3 hl w) (fun y2 y3 H locs ls eo hy2 hy3 hl w => HE y2 y3 H locs ls (hk2 _ eo).symm hy2 hy3 hl w) v2 hv2 v3 hv3 hf hl w
set_option maxRecDepth 100000 in
set_option maxHeartbeats 4000000 in
theorem b_X1_naming_j33 (X : CX p s m args c cX1_naming 4 RX1 D aC ad sg A H0) {M : Mem} {o : Int} (HR : ∀ (r : Int) (H : Heap) (locs : List Loc) (pc : Nat) (ls : Array Slot), o = r → inR r → WS D aC ad A H0 M H locs → decode cX1_naming pc = .ok (.ireturn, 1) → W p l e rm_X1_naming s m args below meth c H locs 0 0 Q (F0 m pc ls [.int (i2 r)])) (v2 : Int) (hv2 : inR v2) (hf : f_X1_naming_j33 v2 M = some o) {H : Heap} {locs : List Loc} {ls : Array Slot} (hl : lv_has ls 4 [(2, .int (i2 v2))]) (w : WS D aC ad A H0 M H locs) : W p l e rm_X1_naming s m args below meth c H locs 0 0 Q (F0 m 33 ls []) := by
  have hx := X.1.1
  have hb := X.1.2.1
  unfold f_X1_naming_j33 at hf
  refine lv_iload_n hx hb dX1_naming_33 rfl (lv_at hl 0 rfl) ?_
  exact HR v2 _ _ _ _ (Option.some.inj hf).symm hv2 w dX1_naming_34
set_option maxRecDepth 100000 in
set_option maxHeartbeats 4000000 in
theorem b_X1_naming_0 (X : CX p s m args c cX1_naming 4 RX1 D aC ad sg A H0) {M : Mem} {o : Int} (HR : ∀ (r : Int) (H : Heap) (locs : List Loc) (pc : Nat) (ls : Array Slot), o = r → inR r → WS D aC ad A H0 M H locs → decode cX1_naming pc = .ok (.ireturn, 1) → W p l e rm_X1_naming s m args below meth c H locs 0 0 Q (F0 m pc ls [.int (i2 r)])) (p1 : Int) (hp1 : inR p1) (hf : f_X1_naming p1 M = some o) {H : Heap} {locs : List Loc} {ls : Array Slot} (hl : lv_has ls 4 [(0, .ref (ad 3)), (1, .int (i2 p1))]) (w : WS D aC ad A H0 M H locs) : W p l e rm_X1_naming s m args below meth c H locs 0 0 Q (F0 m 0 ls []) := by
  have hx := X.1.1
  have hb := X.1.2.1
  unfold f_X1_naming at hf
  refine g_iconst X dX1_naming_0 ?_
  refine g_istn (v := 0) (lv' := [(2, .int (i2 0)), (0, .ref (ad 3)), (1, .int (i2 p1))]) X rfl dX1_naming_1 rfl hl (by decide) rfl (fun ls hl => ?_)
  refine g_iconst X dX1_naming_2 ?_
  refine g_istn (v := 0) (lv' := [(3, .int (i2 0)), (2, .int (i2 0)), (0, .ref (ad 3)), (1, .int (i2 p1))]) X rfl dX1_naming_3 rfl hl (by decide) rfl (fun ls hl => ?_)
  obtain ⟨q, hq, h1⟩ := obn_some hf
  exact l_X1_naming_4 X p1 hp1 (out := q) (fun y2 y3 H locs ls eq hy2 hy3 hl w => b_X1_naming_j33 X  HR y2 hy2 (by subst eq; exact h1) (lv_sub hl [2] rfl) w)  FU 0 0 hq (inL rfl) (inL rfl) (lv_sub hl [2, 3, 1, 0] rfl) w
set_option maxRecDepth 100000 in
set_option maxHeartbeats 4000000 in
theorem k_X1_naming {l : Launch} {D : va_G} {aC : Nat → ClassId} {ad : Nat → Nat} {sg : SG} (hi : Inj ad) (p1 : Int) (hp1 : inR p1) {M : Mem} (hM : inM M) {r : Int} (hf : f_X1_naming p1 M = some r) : MetI l D aC ad sg yX1_naming cX1_naming 4 (some .int) rm_X1_naming 0 0 [.ref (ad 3), .int (i2 p1)] M r M := by
  refine MetI.ofI (by decide +kernel) (nle rfl) hi hM (fun p e s m args below meth c Q H0 ls X hl w hret => ?_)
  exact b_X1_naming_0 X  (fun r1 H locs pc ls eo hP w dg => by cases eo; exact hret H locs pc ls hP w dg) p1 hp1 hf hl w
set_option maxRecDepth 100000 in
set_option maxHeartbeats 4000000 in
theorem b_X1_wishedOnes_s4 (X : CX p s m args c cX1_wishedOnes 5 RX1 D aC ad sg A H0) (v1 : Int) (hv1 : inR v1) {M : Mem} {o : (Int × Int) ⊕ (Int × Int)} (HC : ∀ (y2 : Int) (y3 : Int) (H : Heap) (locs : List Loc) (ls : Array Slot), o = .inl (y2, y3) → inR y2 → inR y3 → lv_has ls 5 [(0, .ref (ad 3)), (1, .int (i2 v1)), (2, .int (i2 y2)), (3, .int (i2 y3))] → WS D aC ad A H0 M H locs → W p l e rm_X1_wishedOnes s m args below meth c H locs 0 0 Q (F0 m 4 ls [])) (HE : ∀ (y2 : Int) (y3 : Int) (H : Heap) (locs : List Loc) (ls : Array Slot), o = .inr (y2, y3) → inR y2 → inR y3 → lv_has ls 5 [(0, .ref (ad 3)), (1, .int (i2 v1)), (2, .int (i2 y2)), (3, .int (i2 y3))] → WS D aC ad A H0 M H locs → W p l e rm_X1_wishedOnes s m args below meth c H locs 0 0 Q (F0 m 40 ls [])) (v2 : Int) (hv2 : inR v2) (v3 : Int) (hv3 : inR v3) (hf : f_X1_wishedOnes_s4 v1 M v2 v3 = some o) {H : Heap} {locs : List Loc} {ls : Array Slot} (hl : lv_has ls 5 [(0, .ref (ad 3)), (1, .int (i2 v1)), (2, .int (i2 v2)), (3, .int (i2 v3))]) (w : WS D aC ad A H0 M H locs) : W p l e rm_X1_wishedOnes s m args below meth c H locs 0 0 Q (F0 m 4 ls []) := by
  have hx := X.1.1
  have hb := X.1.2.1
  unfold f_X1_wishedOnes_s4 at hf
  refine lv_iload_n hx hb dX1_wishedOnes_4 rfl (lv_at hl 3 rfl) ?_
  refine g_iconst X dX1_wishedOnes_5 ?_
  refine g_icmp_ge (tgt := 40) X hv3 (inL rfl) dX1_wishedOnes_6 (by decide) (fun cd => ?_) (fun cd => ?_)
  · replace hf := ite_t cd hf
    exact HE v2 v3 _ _ _ (Option.some.inj hf).symm hv2 hv3 hl w
  · replace hf := ite_f cd hf
    refine lv_aload_n hx hb dX1_wishedOnes_9 rfl (lv_at hl 0 rfl) ?_
    refine g_getr X w fg_X1_27 KD_3 FR_3_6 dX1_wishedOnes_10 ?_
    refine lv_iload_n hx hb dX1_wishedOnes_13 rfl (lv_at hl 1 rfl) ?_
    refine g_iconst X dX1_wishedOnes_14 ?_
    refine g_imul X dX1_wishedOnes_15 ?_
    refine lv_iload_n hx hb dX1_wishedOnes_16 rfl (lv_at hl 3 rfl) ?_
    refine g_iadd X dX1_wishedOnes_17 ?_
    obtain ⟨hg, hf⟩ := gd_some hf
    refine g_iald X w KD_9 (inR_wrap _) hg dX1_wishedOnes_18 ?_
    obtain ⟨v4, ev4, hf⟩ := lt_some hf
    have hv4 : inR v4 := inR_of ev4 (w.2.2 _ _)
    refine g_ist (v := v4) (lv' := [(4, .int (i2 v4)), (0, .ref (ad 3)), (1, .int (i2 v1)), (2, .int (i2 v2)), (3, .int (i2 v3))]) X ev4 dX1_wishedOnes_19 hl (by decide) rfl (fun ls hl => ?_)
    refine lv_iload hx hb dX1_wishedOnes_21 (lv_at hl 0 rfl) ?_
    refine g_iconst X dX1_wishedOnes_23 ?_
    refine g_icmp_eq (tgt := 34) X hv4 (inL rfl) dX1_wishedOnes_24 (by decide) (fun cd_2 => ?_) (fun cd_2 => ?_)
    · replace hf := ite_t cd_2 hf
      obtain ⟨v3_2, ev3_2, hf⟩ := lt_some hf
      have hv3_2 : inR v3_2 := inR_of ev3_2 (inR_wrap _)
      refine lv_iinc (v := i2 v3_2) (lv' := [(3, .int (i2 v3_2)), (4, .int (i2 v4)), (0, .ref (ad 3)), (1, .int (i2 v1)), (2, .int (i2 v2))]) hx hb dX1_wishedOnes_34 hl (k := 4) rfl (by rw [ev3_2]; exact i2_add _ _) (by decide) rfl (fun ls hl => ?_)
      refine lv_goto (tgt := 4) hx hb dX1_wishedOnes_37 (by decide) ?_
      exact HC v2 v3_2 _ _ _ (Option.some.inj hf).symm hv2 hv3_2 (lv_sub hl [2, 3, 4, 0] rfl) w
    · replace hf := ite_f cd_2 hf
      refine lv_iload_n hx hb dX1_wishedOnes_27 rfl (lv_at hl 3 rfl) ?_
      refine g_iconst X dX1_wishedOnes_28 ?_
      refine lv_iload hx hb dX1_wishedOnes_29 (lv_at hl 0 rfl) ?_
      refine g_ishl X dX1_wishedOnes_31 ?_
      refine g_ior X dX1_wishedOnes_32 ?_
      obtain ⟨v2_2, ev2_2, hf⟩ := lt_some hf
      have hv2_2 : inR v2_2 := inR_of ev2_2 (inR_toInt _)
      refine g_istn (v := v2_2) (lv' := [(2, .int (i2 v2_2)), (4, .int (i2 v4)), (0, .ref (ad 3)), (1, .int (i2 v1)), (3, .int (i2 v3))]) X ev2_2 dX1_wishedOnes_33 rfl hl (by decide) rfl (fun ls hl => ?_)
      obtain ⟨v3_3, ev3_3, hf⟩ := lt_some hf
      have hv3_3 : inR v3_3 := inR_of ev3_3 (inR_wrap _)
      refine lv_iinc (v := i2 v3_3) (lv' := [(3, .int (i2 v3_3)), (2, .int (i2 v2_2)), (4, .int (i2 v4)), (0, .ref (ad 3)), (1, .int (i2 v1))]) hx hb dX1_wishedOnes_34 hl (k := 4) rfl (by rw [ev3_3]; exact i2_add _ _) (by decide) rfl (fun ls hl => ?_)
      refine lv_goto (tgt := 4) hx hb dX1_wishedOnes_37 (by decide) ?_
      exact HC v2_2 v3_3 _ _ _ (Option.some.inj hf).symm hv2_2 hv3_3 (lv_sub hl [3, 4, 1, 0] rfl) w
set_option maxRecDepth 100000 in
set_option maxHeartbeats 4000000 in
theorem l_X1_wishedOnes_4 (X : CX p s m args c cX1_wishedOnes 5 RX1 D aC ad sg A H0) (v1 : Int) (hv1 : inR v1) {M : Mem} {out : Int × Int} (HE : ∀ (y2 : Int) (y3 : Int) (H : Heap) (locs : List Loc) (ls : Array Slot), out = (y2, y3) → inR y2 → inR y3 → lv_has ls 5 [(0, .ref (ad 3)), (1, .int (i2 v1)), (2, .int (i2 y2)), (3, .int (i2 y3))] → WS D aC ad A H0 M H locs → W p l e rm_X1_wishedOnes s m args below meth c H locs 0 0 Q (F0 m 40 ls [])) : ∀ (n : Nat) (v2 : Int) (v3 : Int), whl (fun s => f_X1_wishedOnes_s4 v1 M s.1 s.2) n (v2, v3) = some out → inR v2 → inR v3 → ∀ {H : Heap} {locs : List Loc} {ls : Array Slot}, lv_has ls 5 [(0, .ref (ad 3)), (1, .int (i2 v1)), (2, .int (i2 v2)), (3, .int (i2 v3))] → WS D aC ad A H0 M H locs → W p l e rm_X1_wishedOnes s m args below meth c H locs 0 0 Q (F0 m 4 ls []) := by
  intro n
  induction n with
  | zero => intro v2 v3 hf; exact (whl_zero hf).elim
  | succ n ih =>
    intro v2 v3 hf hv2 hv3 H locs ls hl w
    obtain ⟨o, hf, hk1, hk2⟩ := whl_step hf
    exact b_X1_wishedOnes_s4 X v1 hv1 (fun y2 y3 H locs ls eo hy2 hy3 hl w => ih y2 y3 (hk1 _ eo) hy2 hy3 hl w) (fun y2 y3 H locs ls eo hy2 hy3 hl w => HE y2 y3 H locs ls (hk2 _ eo).symm hy2 hy3 hl w) v2 hv2 v3 hv3 hf hl w
set_option maxRecDepth 100000 in
set_option maxHeartbeats 4000000 in
theorem b_X1_wishedOnes_j40 (X : CX p s m args c cX1_wishedOnes 5 RX1 D aC ad sg A H0) {M : Mem} {o : Int} (HR : ∀ (r : Int) (H : Heap) (locs : List Loc) (pc : Nat) (ls : Array Slot), o = r → inR r → WS D aC ad A H0 M H locs → decode cX1_wishedOnes pc = .ok (.ireturn, 1) → W p l e rm_X1_wishedOnes s m args below meth c H locs 0 0 Q (F0 m pc ls [.int (i2 r)])) (v2 : Int) (hv2 : inR v2) (hf : f_X1_wishedOnes_j40 v2 M = some o) {H : Heap} {locs : List Loc} {ls : Array Slot} (hl : lv_has ls 5 [(2, .int (i2 v2))]) (w : WS D aC ad A H0 M H locs) : W p l e rm_X1_wishedOnes s m args below meth c H locs 0 0 Q (F0 m 40 ls []) := by
  have hx := X.1.1
  have hb := X.1.2.1
  unfold f_X1_wishedOnes_j40 at hf
  refine lv_iload_n hx hb dX1_wishedOnes_40 rfl (lv_at hl 0 rfl) ?_
  exact HR v2 _ _ _ _ (Option.some.inj hf).symm hv2 w dX1_wishedOnes_41
set_option maxRecDepth 100000 in
set_option maxHeartbeats 4000000 in
theorem b_X1_wishedOnes_0 (X : CX p s m args c cX1_wishedOnes 5 RX1 D aC ad sg A H0) {M : Mem} {o : Int} (HR : ∀ (r : Int) (H : Heap) (locs : List Loc) (pc : Nat) (ls : Array Slot), o = r → inR r → WS D aC ad A H0 M H locs → decode cX1_wishedOnes pc = .ok (.ireturn, 1) → W p l e rm_X1_wishedOnes s m args below meth c H locs 0 0 Q (F0 m pc ls [.int (i2 r)])) (p1 : Int) (hp1 : inR p1) (hf : f_X1_wishedOnes p1 M = some o) {H : Heap} {locs : List Loc} {ls : Array Slot} (hl : lv_has ls 5 [(0, .ref (ad 3)), (1, .int (i2 p1))]) (w : WS D aC ad A H0 M H locs) : W p l e rm_X1_wishedOnes s m args below meth c H locs 0 0 Q (F0 m 0 ls []) := by
  have hx := X.1.1
  have hb := X.1.2.1
  unfold f_X1_wishedOnes at hf
  refine g_iconst X dX1_wishedOnes_0 ?_
  refine g_istn (v := 0) (lv' := [(2, .int (i2 0)), (0, .ref (ad 3)), (1, .int (i2 p1))]) X rfl dX1_wishedOnes_1 rfl hl (by decide) rfl (fun ls hl => ?_)
  refine g_iconst X dX1_wishedOnes_2 ?_
  refine g_istn (v := 0) (lv' := [(3, .int (i2 0)), (2, .int (i2 0)), (0, .ref (ad 3)), (1, .int (i2 p1))]) X rfl dX1_wishedOnes_3 rfl hl (by decide) rfl (fun ls hl => ?_)
  obtain ⟨q, hq, h1⟩ := obn_some hf
  exact l_X1_wishedOnes_4 X p1 hp1 (out := q) (fun y2 y3 H locs ls eq hy2 hy3 hl w => b_X1_wishedOnes_j40 X  HR y2 hy2 (by subst eq; exact h1) (lv_sub hl [2] rfl) w)  FU 0 0 hq (inL rfl) (inL rfl) (lv_sub hl [2, 3, 1, 0] rfl) w
set_option maxRecDepth 100000 in
set_option maxHeartbeats 4000000 in
theorem k_X1_wishedOnes {l : Launch} {D : va_G} {aC : Nat → ClassId} {ad : Nat → Nat} {sg : SG} (hi : Inj ad) (p1 : Int) (hp1 : inR p1) {M : Mem} (hM : inM M) {r : Int} (hf : f_X1_wishedOnes p1 M = some r) : MetI l D aC ad sg yX1_wishedOnes cX1_wishedOnes 5 (some .int) rm_X1_wishedOnes 0 0 [.ref (ad 3), .int (i2 p1)] M r M := by
  refine MetI.ofI (by decide +kernel) (nle rfl) hi hM (fun p e s m args below meth c Q H0 ls X hl w hret => ?_)
  exact b_X1_wishedOnes_0 X  (fun r1 H locs pc ls eo hP w dg => by cases eo; exact hret H locs pc ls hP w dg) p1 hp1 hf hl w
set_option maxRecDepth 100000 in
set_option maxHeartbeats 4000000 in
theorem b_X1_bestWish_s2 (X : CX p s m args c cX1_bestWish 5 RX1 D aC ad sg A H0) (v1 : Int) (hv1 : inR v1) (v2 : Int) (hv2 : inR v2) {M : Mem} {o : (Int) ⊕ ((Int) ⊕ (Int))} (HC : ∀ (y3 : Int) (H : Heap) (locs : List Loc) (ls : Array Slot), o = .inl y3 → inR y3 → lv_has ls 5 [(0, .ref (ad 3)), (1, .int (i2 v1)), (2, .int (i2 v2)), (3, .int (i2 y3))] → WS D aC ad A H0 M H locs → W p l e rm_X1_bestWish s m args below meth c H locs 0 0 Q (F0 m 2 ls [])) (HE : ∀ (y3 : Int) (H : Heap) (locs : List Loc) (ls : Array Slot), o = .inr (.inl y3) → inR y3 → lv_has ls 5 [(0, .ref (ad 3)), (1, .int (i2 v1)), (2, .int (i2 v2)), (3, .int (i2 y3))] → WS D aC ad A H0 M H locs → W p l e rm_X1_bestWish s m args below meth c H locs 0 0 Q (F0 m 42 ls [])) (HR : ∀ (r : Int) (H : Heap) (locs : List Loc) (pc : Nat) (ls : Array Slot), o = .inr (.inr r) → inR r → WS D aC ad A H0 M H locs → decode cX1_bestWish pc = .ok (.ireturn, 1) → W p l e rm_X1_bestWish s m args below meth c H locs 0 0 Q (F0 m pc ls [.int (i2 r)])) (v3 : Int) (hv3 : inR v3) (hf : f_X1_bestWish_s2 v1 v2 M v3 = some o) {H : Heap} {locs : List Loc} {ls : Array Slot} (hl : lv_has ls 5 [(0, .ref (ad 3)), (1, .int (i2 v1)), (2, .int (i2 v2)), (3, .int (i2 v3))]) (w : WS D aC ad A H0 M H locs) : W p l e rm_X1_bestWish s m args below meth c H locs 0 0 Q (F0 m 2 ls []) := by
  have hx := X.1.1
  have hb := X.1.2.1
  unfold f_X1_bestWish_s2 at hf
  refine lv_iload_n hx hb dX1_bestWish_2 rfl (lv_at hl 3 rfl) ?_
  refine g_iconst X dX1_bestWish_3 ?_
  refine g_icmp_ge (tgt := 42) X hv3 (inL rfl) dX1_bestWish_4 (by decide) (fun cd => ?_) (fun cd => ?_)
  · replace hf := ite_t cd hf
    exact HE v3 _ _ _ (Option.some.inj hf).symm hv3 hl w
  · replace hf := ite_f cd hf
    refine lv_aload_n hx hb dX1_bestWish_7 rfl (lv_at hl 0 rfl) ?_
    refine g_getr X w fg_X1_27 KD_3 FR_3_6 dX1_bestWish_8 ?_
    refine lv_iload_n hx hb dX1_bestWish_11 rfl (lv_at hl 1 rfl) ?_
    refine g_iconst X dX1_bestWish_12 ?_
    refine g_imul X dX1_bestWish_13 ?_
    refine lv_iload_n hx hb dX1_bestWish_14 rfl (lv_at hl 3 rfl) ?_
    refine g_iadd X dX1_bestWish_15 ?_
    obtain ⟨hg, hf⟩ := gd_some hf
    refine g_iald X w KD_9 (inR_wrap _) hg dX1_bestWish_16 ?_
    obtain ⟨v4, ev4, hf⟩ := lt_some hf
    have hv4 : inR v4 := inR_of ev4 (w.2.2 _ _)
    refine g_ist (v := v4) (lv' := [(4, .int (i2 v4)), (0, .ref (ad 3)), (1, .int (i2 v1)), (2, .int (i2 v2)), (3, .int (i2 v3))]) X ev4 dX1_bestWish_17 hl (by decide) rfl (fun ls hl => ?_)
    refine lv_iload hx hb dX1_bestWish_19 (lv_at hl 0 rfl) ?_
    refine g_iconst X dX1_bestWish_21 ?_
    refine g_icmp_eq (tgt := 36) X hv4 (inL rfl) dX1_bestWish_22 (by decide) (fun cd_2 => ?_) (fun cd_2 => ?_)
    · replace hf := ite_t cd_2 hf
      obtain ⟨v3_2, ev3_2, hf⟩ := lt_some hf
      have hv3_2 : inR v3_2 := inR_of ev3_2 (inR_wrap _)
      refine lv_iinc (v := i2 v3_2) (lv' := [(3, .int (i2 v3_2)), (4, .int (i2 v4)), (0, .ref (ad 3)), (1, .int (i2 v1)), (2, .int (i2 v2))]) hx hb dX1_bestWish_36 hl (k := 4) rfl (by rw [ev3_2]; exact i2_add _ _) (by decide) rfl (fun ls hl => ?_)
      refine lv_goto (tgt := 2) hx hb dX1_bestWish_39 (by decide) ?_
      exact HC v3_2 _ _ _ (Option.some.inj hf).symm hv3_2 (lv_sub hl [2, 3, 4, 0] rfl) w
    · replace hf := ite_f cd_2 hf
      refine lv_iload_n hx hb dX1_bestWish_25 rfl (lv_at hl 3 rfl) ?_
      refine lv_iload hx hb dX1_bestWish_26 (lv_at hl 0 rfl) ?_
      refine g_ishr X dX1_bestWish_28 ?_
      refine g_iconst X dX1_bestWish_29 ?_
      refine g_iand X dX1_bestWish_30 ?_
      refine g_if_eq (tgt := 36) X (inR_toInt _) dX1_bestWish_31 (by decide) (fun cd_3 => ?_) (fun cd_3 => ?_)
      · replace hf := ite_t cd_3 hf
        obtain ⟨v3_3, ev3_3, hf⟩ := lt_some hf
        have hv3_3 : inR v3_3 := inR_of ev3_3 (inR_wrap _)
        refine lv_iinc (v := i2 v3_3) (lv' := [(3, .int (i2 v3_3)), (4, .int (i2 v4)), (0, .ref (ad 3)), (1, .int (i2 v1)), (2, .int (i2 v2))]) hx hb dX1_bestWish_36 hl (k := 4) rfl (by rw [ev3_3]; exact i2_add _ _) (by decide) rfl (fun ls hl => ?_)
        refine lv_goto (tgt := 2) hx hb dX1_bestWish_39 (by decide) ?_
        exact HC v3_3 _ _ _ (Option.some.inj hf).symm hv3_3 (lv_sub hl [2, 3, 4, 0] rfl) w
      · replace hf := ite_f cd_3 hf
        refine lv_iload_n hx hb dX1_bestWish_34 rfl (lv_at hl 4 rfl) ?_
        exact HR v3 _ _ _ _ (Option.some.inj hf).symm hv3 w dX1_bestWish_35
set_option maxRecDepth 100000 in
set_option maxHeartbeats 4000000 in
theorem l_X1_bestWish_2 (X : CX p s m args c cX1_bestWish 5 RX1 D aC ad sg A H0) (v1 : Int) (hv1 : inR v1) (v2 : Int) (hv2 : inR v2) {M : Mem} {out : (Int) ⊕ (Int)} (HE : ∀ (y3 : Int) (H : Heap) (locs : List Loc) (ls : Array Slot), out = .inl y3 → inR y3 → lv_has ls 5 [(0, .ref (ad 3)), (1, .int (i2 v1)), (2, .int (i2 v2)), (3, .int (i2 y3))] → WS D aC ad A H0 M H locs → W p l e rm_X1_bestWish s m args below meth c H locs 0 0 Q (F0 m 42 ls [])) (HR : ∀ (r : Int) (H : Heap) (locs : List Loc) (pc : Nat) (ls : Array Slot), out = .inr r → inR r → WS D aC ad A H0 M H locs → decode cX1_bestWish pc = .ok (.ireturn, 1) → W p l e rm_X1_bestWish s m args below meth c H locs 0 0 Q (F0 m pc ls [.int (i2 r)])) : ∀ (n : Nat) (v3 : Int), whl (fun s => f_X1_bestWish_s2 v1 v2 M s) n v3 = some out → inR v3 → ∀ {H : Heap} {locs : List Loc} {ls : Array Slot}, lv_has ls 5 [(0, .ref (ad 3)), (1, .int (i2 v1)), (2, .int (i2 v2)), (3, .int (i2 v3))] → WS D aC ad A H0 M H locs → W p l e rm_X1_bestWish s m args below meth c H locs 0 0 Q (F0 m 2 ls []) := by
  intro n
  induction n with
  | zero => intro v3 hf; exact (whl_zero hf).elim
  | succ n ih =>
    intro v3 hf hv3 H locs ls hl w
    obtain ⟨o, hf, hk1, hk2⟩ := whl_step hf
    exact b_X1_bestWish_s2 X v1 hv1 v2 hv2 (fun y3 H locs ls eo hy3 hl w => ih y3 (hk1 _ eo) hy3 hl w) (fun y3 H locs ls eo hy3 hl w => HE y3 H locs ls (hk2 _ eo).symm hy3 hl w) (fun r H locs pc ls eo hP w dg => HR r H locs pc ls (hk2 _ eo).symm hP w dg) v3 hv3 hf hl w
set_option maxRecDepth 100000 in
set_option maxHeartbeats 4000000 in
theorem b_X1_bestWish_j42 (X : CX p s m args c cX1_bestWish 5 RX1 D aC ad sg A H0) {M : Mem} {o : Int} (HR : ∀ (r : Int) (H : Heap) (locs : List Loc) (pc : Nat) (ls : Array Slot), o = r → inR r → WS D aC ad A H0 M H locs → decode cX1_bestWish pc = .ok (.ireturn, 1) → W p l e rm_X1_bestWish s m args below meth c H locs 0 0 Q (F0 m pc ls [.int (i2 r)])) (hf : f_X1_bestWish_j42 M = some o) {H : Heap} {locs : List Loc} {ls : Array Slot} (hl : lv_has ls 5 []) (w : WS D aC ad A H0 M H locs) : W p l e rm_X1_bestWish s m args below meth c H locs 0 0 Q (F0 m 42 ls []) := by
  have hx := X.1.1
  have hb := X.1.2.1
  unfold f_X1_bestWish_j42 at hf
  refine g_iconst X dX1_bestWish_42 ?_
  exact HR 3 _ _ _ _ (Option.some.inj hf).symm (inL rfl) w dX1_bestWish_43
set_option maxRecDepth 100000 in
set_option maxHeartbeats 4000000 in
theorem b_X1_bestWish_0 (X : CX p s m args c cX1_bestWish 5 RX1 D aC ad sg A H0) {M : Mem} {o : Int} (HR : ∀ (r : Int) (H : Heap) (locs : List Loc) (pc : Nat) (ls : Array Slot), o = r → inR r → WS D aC ad A H0 M H locs → decode cX1_bestWish pc = .ok (.ireturn, 1) → W p l e rm_X1_bestWish s m args below meth c H locs 0 0 Q (F0 m pc ls [.int (i2 r)])) (p1 : Int) (hp1 : inR p1) (p2 : Int) (hp2 : inR p2) (hf : f_X1_bestWish p1 p2 M = some o) {H : Heap} {locs : List Loc} {ls : Array Slot} (hl : lv_has ls 5 [(0, .ref (ad 3)), (1, .int (i2 p1)), (2, .int (i2 p2))]) (w : WS D aC ad A H0 M H locs) : W p l e rm_X1_bestWish s m args below meth c H locs 0 0 Q (F0 m 0 ls []) := by
  have hx := X.1.1
  have hb := X.1.2.1
  unfold f_X1_bestWish at hf
  refine g_iconst X dX1_bestWish_0 ?_
  refine g_istn (v := 0) (lv' := [(3, .int (i2 0)), (0, .ref (ad 3)), (1, .int (i2 p1)), (2, .int (i2 p2))]) X rfl dX1_bestWish_1 rfl hl (by decide) rfl (fun ls hl => ?_)
  obtain ⟨q, hq, h1, h2⟩ := lpr_some hf
  exact l_X1_bestWish_2 X p1 hp1 p2 hp2 (out := q) (fun y3 H locs ls eq hy3 hl w => b_X1_bestWish_j42 X  HR  (h1 _ eq) (lv_sub hl [] rfl) w) (fun r H locs pc ls eq hP w dg => HR r H locs pc ls (Option.some.inj (h2 _ eq)).symm hP w dg) FU 0 hq (inL rfl) (lv_sub hl [1, 2, 3, 0] rfl) w
set_option maxRecDepth 100000 in
set_option maxHeartbeats 4000000 in
theorem k_X1_bestWish {l : Launch} {D : va_G} {aC : Nat → ClassId} {ad : Nat → Nat} {sg : SG} (hi : Inj ad) (p1 : Int) (hp1 : inR p1) (p2 : Int) (hp2 : inR p2) {M : Mem} (hM : inM M) {r : Int} (hf : f_X1_bestWish p1 p2 M = some r) : MetI l D aC ad sg yX1_bestWish cX1_bestWish 5 (some .int) rm_X1_bestWish 0 0 [.ref (ad 3), .int (i2 p1), .int (i2 p2)] M r M := by
  refine MetI.ofI (by decide +kernel) (nle rfl) hi hM (fun p e s m args below meth c Q H0 ls X hl w hret => ?_)
  exact b_X1_bestWish_0 X  (fun r1 H locs pc ls eo hP w dg => by cases eo; exact hret H locs pc ls hP w dg) p1 hp1 p2 hp2 hf hl w
set_option maxRecDepth 100000 in
set_option maxHeartbeats 4000000 in
theorem b_X1_admit_0 (X : CX p s m args c cX1_admit 5 RX1 D aC ad sg A H0) {o : Int × Mem} (HR : ∀ (r : Int) (M1 : Mem) (H : Heap) (locs : List Loc) (pc : Nat) (ls : Array Slot), o = (r, M1) → inR r → WS D aC ad A H0 M1 H locs → decode cX1_admit pc = .ok (.ireturn, 1) → W p l e rm_X1_admit s m args below meth c H locs 0 0 Q (F0 m pc ls [.int (i2 r)])) (p1 : Int) (hp1 : inR p1) (p2 : Int) (hp2 : inR p2) (p3 : Int) (hp3 : inR p3) (p4 : Int) (hp4 : inR p4) (M : Mem) (hf : f_X1_admit p1 p2 p3 p4 M = some o) {H : Heap} {locs : List Loc} {ls : Array Slot} (hl : lv_has ls 5 [(0, .ref (ad 3)), (1, .int (i2 p1)), (2, .int (i2 p2)), (3, .int (i2 p3)), (4, .int (i2 p4))]) (w : WS D aC ad A H0 M H locs) : W p l e rm_X1_admit s m args below meth c H locs 0 0 Q (F0 m 0 ls []) := by
  have hx := X.1.1
  have hb := X.1.2.1
  unfold f_X1_admit at hf
  refine lv_aload_n hx hb dX1_admit_0 rfl (lv_at hl 0 rfl) ?_
  refine g_geti X w fg_X1_61 KD_3 FR_3_0 dX1_admit_1 ?_
  refine g_bipush X dX1_admit_4 (by decide) ?_
  refine g_icmp_lt (tgt := 11) X (w.2.2 _ _) (inL rfl) dX1_admit_6 (by decide) (fun cd => ?_) (fun cd => ?_)
  · replace hf := ite_t cd hf
    refine lv_aload_n hx hb dX1_admit_11 rfl (lv_at hl 0 rfl) ?_
    refine g_getr X w fg_X1_9 KD_3 FR_3_1 dX1_admit_12 ?_
    refine lv_aload_n hx hb dX1_admit_15 rfl (lv_at hl 0 rfl) ?_
    refine g_geti X w fg_X1_61 KD_3 FR_3_0 dX1_admit_16 ?_
    refine lv_iload_n hx hb dX1_admit_19 rfl (lv_at hl 1 rfl) ?_
    obtain ⟨hg, hf⟩ := gd_some hf
    obtain ⟨M_2, eM_2, hf⟩ := lt_some hf
    refine g_iast X w KD_4 (w.2.2 _ _) hg hp1 dX1_admit_20 (fun H locs w_M_2 => ?_)
    rw [← eM_2] at w_M_2
    refine lv_aload_n hx hb dX1_admit_21 rfl (lv_at hl 0 rfl) ?_
    refine g_getr X w_M_2 fg_X1_15 KD_3 FR_3_2 dX1_admit_22 ?_
    refine lv_aload_n hx hb dX1_admit_25 rfl (lv_at hl 0 rfl) ?_
    refine g_geti X w_M_2 fg_X1_61 KD_3 FR_3_0 dX1_admit_26 ?_
    refine lv_iload_n hx hb dX1_admit_29 rfl (lv_at hl 2 rfl) ?_
    obtain ⟨hg_2, hf⟩ := gd_some hf
    obtain ⟨M_3, eM_3, hf⟩ := lt_some hf
    refine g_iast X w_M_2 KD_5 (w_M_2.2.2 _ _) hg_2 hp2 dX1_admit_30 (fun H locs w_M_3 => ?_)
    rw [← eM_3] at w_M_3
    refine lv_aload_n hx hb dX1_admit_31 rfl (lv_at hl 0 rfl) ?_
    refine g_getr X w_M_3 fg_X1_18 KD_3 FR_3_3 dX1_admit_32 ?_
    refine lv_aload_n hx hb dX1_admit_35 rfl (lv_at hl 0 rfl) ?_
    refine g_geti X w_M_3 fg_X1_61 KD_3 FR_3_0 dX1_admit_36 ?_
    refine lv_iload_n hx hb dX1_admit_39 rfl (lv_at hl 3 rfl) ?_
    obtain ⟨hg_3, hf⟩ := gd_some hf
    obtain ⟨M_4, eM_4, hf⟩ := lt_some hf
    refine g_iast X w_M_3 KD_6 (w_M_3.2.2 _ _) hg_3 hp3 dX1_admit_40 (fun H locs w_M_4 => ?_)
    rw [← eM_4] at w_M_4
    refine lv_aload_n hx hb dX1_admit_41 rfl (lv_at hl 0 rfl) ?_
    refine g_getr X w_M_4 fg_X1_21 KD_3 FR_3_4 dX1_admit_42 ?_
    refine lv_aload_n hx hb dX1_admit_45 rfl (lv_at hl 0 rfl) ?_
    refine g_geti X w_M_4 fg_X1_61 KD_3 FR_3_0 dX1_admit_46 ?_
    refine lv_iload hx hb dX1_admit_49 (lv_at hl 4 rfl) ?_
    obtain ⟨hg_4, hf⟩ := gd_some hf
    obtain ⟨M_5, eM_5, hf⟩ := lt_some hf
    refine g_iast X w_M_4 KD_7 (w_M_4.2.2 _ _) hg_4 hp4 dX1_admit_51 (fun H locs w_M_5 => ?_)
    rw [← eM_5] at w_M_5
    refine lv_aload_n hx hb dX1_admit_52 rfl (lv_at hl 0 rfl) ?_
    refine lv_dup hx hb dX1_admit_53 rfl ?_
    refine g_geti X w_M_5 fg_X1_61 KD_3 FR_3_0 dX1_admit_54 ?_
    refine g_iconst X dX1_admit_57 ?_
    refine g_iadd X dX1_admit_58 ?_
    obtain ⟨M_6, eM_6, hf⟩ := lt_some hf
    refine g_puti X w_M_5 fp_X1_61 KD_3 FR_3_0 (inR_wrap _) dX1_admit_59 (fun H locs w_M_6 => ?_)
    rw [← eM_6] at w_M_6
    refine lv_aload_n hx hb dX1_admit_62 rfl (lv_at hl 0 rfl) ?_
    refine g_geti X w_M_6 fg_X1_61 KD_3 FR_3_0 dX1_admit_63 ?_
    refine g_iconst X dX1_admit_66 ?_
    refine g_isub X dX1_admit_67 ?_
    exact HR (wrap ((M_6 3 0) - 1)) M_6 _ _ _ _ (Option.some.inj hf).symm (inR_wrap _) w_M_6 dX1_admit_68
  · replace hf := ite_f cd hf
    refine g_iconst X dX1_admit_9 ?_
    exact HR (-1) M _ _ _ _ (Option.some.inj hf).symm (inL rfl) w dX1_admit_10
set_option maxRecDepth 100000 in
set_option maxHeartbeats 4000000 in
theorem k_X1_admit {l : Launch} {D : va_G} {aC : Nat → ClassId} {ad : Nat → Nat} {sg : SG} (hi : Inj ad) (p1 : Int) (hp1 : inR p1) (p2 : Int) (hp2 : inR p2) (p3 : Int) (hp3 : inR p3) (p4 : Int) (hp4 : inR p4) {M : Mem} (hM : inM M) {r : Int} {M' : Mem} (hf : f_X1_admit p1 p2 p3 p4 M = some (r, M')) : MetI l D aC ad sg yX1_admit cX1_admit 5 (some .int) rm_X1_admit 0 0 [.ref (ad 3), .int (i2 p1), .int (i2 p2), .int (i2 p3), .int (i2 p4)] M r M' := by
  refine MetI.ofI (by decide +kernel) (nle rfl) hi hM (fun p e s m args below meth c Q H0 ls X hl w hret => ?_)
  exact b_X1_admit_0 X  (fun r1 M1 H locs pc ls eo hP w dg => by cases eo; exact hret H locs pc ls hP w dg) p1 hp1 p2 hp2 p3 hp3 p4 hp4 M hf hl w
set_option maxRecDepth 100000 in
set_option maxHeartbeats 4000000 in
theorem b_X1_areTwo_0 (X : CX p s m args c cX1_areTwo 3 RX1 D aC ad sg A H0) {M : Mem} {o : Int} (HR : ∀ (r : Int) (H : Heap) (locs : List Loc) (pc : Nat) (ls : Array Slot), o = r → isZ r → WS D aC ad A H0 M H locs → decode cX1_areTwo pc = .ok (.ireturn, 1) → W p l e rm_X1_areTwo s m args below meth c H locs 0 0 Q (F0 m pc ls [.int (i2 r)])) (p1 : Int) (hp1 : inR p1) (p2 : Int) (hp2 : inR p2) (hf : f_X1_areTwo p1 p2 M = some o) {H : Heap} {locs : List Loc} {ls : Array Slot} (hl : lv_has ls 3 [(0, .ref (ad 3)), (1, .int (i2 p1)), (2, .int (i2 p2))]) (w : WS D aC ad A H0 M H locs) : W p l e rm_X1_areTwo s m args below meth c H locs 0 0 Q (F0 m 0 ls []) := by
  have hx := X.1.1
  have hb := X.1.2.1
  unfold f_X1_areTwo at hf
  refine lv_aload_n hx hb dX1_areTwo_0 rfl (lv_at hl 0 rfl) ?_
  refine lv_iload_n hx hb dX1_areTwo_1 rfl (lv_at hl 1 rfl) ?_
  obtain ⟨r, hc, hf⟩ := obn_some hf
  refine g_cvi (As := [.int (i2 p1)]) (rest := []) X w (k_X1_has X.2.2.1 p1 hp1 w.2.2 hc) lk_X1_64 cl_1 KD_3 ⟨rfl, rfl⟩ ⟨nle rfl, nle rfl⟩ ⟨nle rfl, nle rfl⟩ hl.1 rfl (nle rfl) dX1_areTwo_2 (fun hr H locs w => ?_)
  refine g_if_eq (tgt := 25) X hr dX1_areTwo_5 (by decide) (fun cd => ?_) (fun cd => ?_)
  · replace hf := ite_t cd hf
    refine g_iconst X dX1_areTwo_25 ?_
    exact HR 0 _ _ _ _ (Option.some.inj hf).symm (Or.inl rfl) w dX1_areTwo_26
  · replace hf := ite_f cd hf
    refine lv_aload_n hx hb dX1_areTwo_8 rfl (lv_at hl 0 rfl) ?_
    refine lv_iload_n hx hb dX1_areTwo_9 rfl (lv_at hl 2 rfl) ?_
    obtain ⟨r_2, hc, hf⟩ := obn_some hf
    refine g_cvi (As := [.int (i2 p2)]) (rest := []) X w (k_X1_has X.2.2.1 p2 hp2 w.2.2 hc) lk_X1_64 cl_1 KD_3 ⟨rfl, rfl⟩ ⟨nle rfl, nle rfl⟩ ⟨nle rfl, nle rfl⟩ hl.1 rfl (nle rfl) dX1_areTwo_10 (fun hr_2 H locs w => ?_)
    refine g_if_eq (tgt := 25) X hr_2 dX1_areTwo_13 (by decide) (fun cd_2 => ?_) (fun cd_2 => ?_)
    · replace hf := ite_t cd_2 hf
      refine g_iconst X dX1_areTwo_25 ?_
      exact HR 0 _ _ _ _ (Option.some.inj hf).symm (Or.inl rfl) w dX1_areTwo_26
    · replace hf := ite_f cd_2 hf
      refine lv_iload_n hx hb dX1_areTwo_16 rfl (lv_at hl 1 rfl) ?_
      refine lv_iload_n hx hb dX1_areTwo_17 rfl (lv_at hl 2 rfl) ?_
      refine g_icmp_eq (tgt := 25) X hp1 hp2 dX1_areTwo_18 (by decide) (fun cd_3 => ?_) (fun cd_3 => ?_)
      · replace hf := ite_t cd_3 hf
        refine g_iconst X dX1_areTwo_25 ?_
        exact HR 0 _ _ _ _ (Option.some.inj hf).symm (Or.inl rfl) w dX1_areTwo_26
      · replace hf := ite_f cd_3 hf
        refine g_iconst X dX1_areTwo_21 ?_
        refine lv_goto (tgt := 26) hx hb dX1_areTwo_22 (by decide) ?_
        exact HR 1 _ _ _ _ (Option.some.inj hf).symm (Or.inr rfl) w dX1_areTwo_26
set_option maxRecDepth 100000 in
set_option maxHeartbeats 4000000 in
theorem k_X1_areTwo {l : Launch} {D : va_G} {aC : Nat → ClassId} {ad : Nat → Nat} {sg : SG} (hi : Inj ad) (p1 : Int) (hp1 : inR p1) (p2 : Int) (hp2 : inR p2) {M : Mem} (hM : inM M) {r : Int} (hf : f_X1_areTwo p1 p2 M = some r) : MetI l D aC ad sg yX1_areTwo cX1_areTwo 3 (some .boolean) rm_X1_areTwo 0 0 [.ref (ad 3), .int (i2 p1), .int (i2 p2)] M r M := by
  refine MetI.ofZ (by decide +kernel) (nle rfl) hi hM (fun p e s m args below meth c Q H0 ls X hl w hret => ?_)
  exact b_X1_areTwo_0 X  (fun r1 H locs pc ls eo hP w dg => by cases eo; exact hret H locs pc ls hP w dg) p1 hp1 p2 hp2 hf hl w
set_option maxRecDepth 100000 in
set_option maxHeartbeats 4000000 in
theorem b_X1_reach_s20 (X : CX p s m args c cX1_reach 6 RX1 D aC ad sg A H0) (v3 : Int) (hv3 : inR v3) (v4 : Int) (hv4 : inR v4) {M : Mem} {o : (Int × Int) ⊕ (Int × Int)} (HC : ∀ (y2 : Int) (y5 : Int) (H : Heap) (locs : List Loc) (ls : Array Slot), o = .inl (y2, y5) → inR y2 → inR y5 → lv_has ls 6 [(0, .ref (ad 3)), (2, .int (i2 y2)), (3, .int (i2 v3)), (4, .int (i2 v4)), (5, .int (i2 y5))] → WS D aC ad A H0 M H locs → W p l e rm_X1_reach s m args below meth c H locs 0 0 Q (F0 m 20 ls [])) (HE : ∀ (y2 : Int) (y5 : Int) (H : Heap) (locs : List Loc) (ls : Array Slot), o = .inr (y2, y5) → inR y2 → inR y5 → lv_has ls 6 [(0, .ref (ad 3)), (2, .int (i2 y2)), (3, .int (i2 v3)), (4, .int (i2 v4)), (5, .int (i2 y5))] → WS D aC ad A H0 M H locs → W p l e rm_X1_reach s m args below meth c H locs 0 0 Q (F0 m 53 ls [])) (v2 : Int) (hv2 : inR v2) (v5 : Int) (hv5 : inR v5) (hf : f_X1_reach_s20 v3 v4 M v2 v5 = some o) {H : Heap} {locs : List Loc} {ls : Array Slot} (hl : lv_has ls 6 [(0, .ref (ad 3)), (2, .int (i2 v2)), (3, .int (i2 v3)), (4, .int (i2 v4)), (5, .int (i2 v5))]) (w : WS D aC ad A H0 M H locs) : W p l e rm_X1_reach s m args below meth c H locs 0 0 Q (F0 m 20 ls []) := by
  have hx := X.1.1
  have hb := X.1.2.1
  unfold f_X1_reach_s20 at hf
  refine lv_iload hx hb dX1_reach_20 (lv_at hl 4 rfl) ?_
  refine lv_aload_n hx hb dX1_reach_22 rfl (lv_at hl 0 rfl) ?_
  refine g_geti X w fg_X1_61 KD_3 FR_3_0 dX1_reach_23 ?_
  refine g_icmp_ge (tgt := 53) X hv5 (w.2.2 _ _) dX1_reach_26 (by decide) (fun cd => ?_) (fun cd => ?_)
  · replace hf := ite_t cd hf
    exact HE v2 v5 _ _ _ (Option.some.inj hf).symm hv2 hv5 hl w
  · replace hf := ite_f cd hf
    refine lv_iload_n hx hb dX1_reach_29 rfl (lv_at hl 1 rfl) ?_
    refine lv_iload hx hb dX1_reach_30 (lv_at hl 4 rfl) ?_
    refine g_ishr X dX1_reach_32 ?_
    refine g_iconst X dX1_reach_33 ?_
    refine g_iand X dX1_reach_34 ?_
    refine g_if_eq (tgt := 47) X (inR_toInt _) dX1_reach_35 (by decide) (fun cd_2 => ?_) (fun cd_2 => ?_)
    · replace hf := ite_t cd_2 hf
      obtain ⟨v5_2, ev5_2, hf⟩ := lt_some hf
      have hv5_2 : inR v5_2 := inR_of ev5_2 (inR_wrap _)
      refine lv_iinc (v := i2 v5_2) (lv' := [(5, .int (i2 v5_2)), (0, .ref (ad 3)), (2, .int (i2 v2)), (3, .int (i2 v3)), (4, .int (i2 v4))]) hx hb dX1_reach_47 hl (k := 4) rfl (by rw [ev5_2]; exact i2_add _ _) (by decide) rfl (fun ls hl => ?_)
      refine lv_goto (tgt := 20) hx hb dX1_reach_50 (by decide) ?_
      exact HC v2 v5_2 _ _ _ (Option.some.inj hf).symm hv2 hv5_2 (lv_sub hl [1, 2, 3, 4, 0] rfl) w
    · replace hf := ite_f cd_2 hf
      refine lv_iload_n hx hb dX1_reach_38 rfl (lv_at hl 1 rfl) ?_
      refine lv_aload_n hx hb dX1_reach_39 rfl (lv_at hl 0 rfl) ?_
      refine lv_iload hx hb dX1_reach_40 (lv_at hl 4 rfl) ?_
      obtain ⟨r, hc, hf⟩ := obn_some hf
      refine g_cvi (As := [.int (i2 v5)]) (rest := [.int (i2 v2)]) X w (k_X1_wishedOnes X.2.2.1 v5 hv5 w.2.2 hc) lk_X1_68 cl_1 KD_3 ⟨rfl, rfl⟩ ⟨nle rfl, nle rfl⟩ ⟨nle rfl, nle rfl⟩ hl.1 rfl (nle rfl) dX1_reach_42 (fun hr H locs w => ?_)
      refine g_ior X dX1_reach_45 ?_
      obtain ⟨v2_2, ev2_2, hf⟩ := lt_some hf
      have hv2_2 : inR v2_2 := inR_of ev2_2 (inR_toInt _)
      refine g_istn (v := v2_2) (lv' := [(2, .int (i2 v2_2)), (0, .ref (ad 3)), (3, .int (i2 v3)), (4, .int (i2 v4)), (5, .int (i2 v5))]) X ev2_2 dX1_reach_46 rfl hl (by decide) rfl (fun ls hl => ?_)
      obtain ⟨v5_3, ev5_3, hf⟩ := lt_some hf
      have hv5_3 : inR v5_3 := inR_of ev5_3 (inR_wrap _)
      refine lv_iinc (v := i2 v5_3) (lv' := [(5, .int (i2 v5_3)), (2, .int (i2 v2_2)), (0, .ref (ad 3)), (3, .int (i2 v3)), (4, .int (i2 v4))]) hx hb dX1_reach_47 hl (k := 4) rfl (by rw [ev5_3]; exact i2_add _ _) (by decide) rfl (fun ls hl => ?_)
      refine lv_goto (tgt := 20) hx hb dX1_reach_50 (by decide) ?_
      exact HC v2_2 v5_3 _ _ _ (Option.some.inj hf).symm hv2_2 hv5_3 (lv_sub hl [2, 1, 3, 4, 0] rfl) w
set_option maxRecDepth 100000 in
set_option maxHeartbeats 4000000 in
theorem l_X1_reach_20 (X : CX p s m args c cX1_reach 6 RX1 D aC ad sg A H0) (v3 : Int) (hv3 : inR v3) (v4 : Int) (hv4 : inR v4) {M : Mem} {out : Int × Int} (HE : ∀ (y2 : Int) (y5 : Int) (H : Heap) (locs : List Loc) (ls : Array Slot), out = (y2, y5) → inR y2 → inR y5 → lv_has ls 6 [(0, .ref (ad 3)), (2, .int (i2 y2)), (3, .int (i2 v3)), (4, .int (i2 v4)), (5, .int (i2 y5))] → WS D aC ad A H0 M H locs → W p l e rm_X1_reach s m args below meth c H locs 0 0 Q (F0 m 53 ls [])) : ∀ (n : Nat) (v2 : Int) (v5 : Int), whl (fun s => f_X1_reach_s20 v3 v4 M s.1 s.2) n (v2, v5) = some out → inR v2 → inR v5 → ∀ {H : Heap} {locs : List Loc} {ls : Array Slot}, lv_has ls 6 [(0, .ref (ad 3)), (2, .int (i2 v2)), (3, .int (i2 v3)), (4, .int (i2 v4)), (5, .int (i2 v5))] → WS D aC ad A H0 M H locs → W p l e rm_X1_reach s m args below meth c H locs 0 0 Q (F0 m 20 ls []) := by
  intro n
  induction n with
  | zero => intro v2 v5 hf; exact (whl_zero hf).elim
  | succ n ih =>
    intro v2 v5 hf hv2 hv5 H locs ls hl w
    obtain ⟨o, hf, hk1, hk2⟩ := whl_step hf
    exact b_X1_reach_s20 X v3 hv3 v4 hv4 (fun y2 y5 H locs ls eo hy2 hy5 hl w => ih y2 y5 (hk1 _ eo) hy2 hy5 hl w) (fun y2 y5 H locs ls eo hy2 hy5 hl w => HE y2 y5 H locs ls (hk2 _ eo).symm hy2 hy5 hl w) v2 hv2 v5 hv5 hf hl w
set_option maxRecDepth 100000 in
set_option maxHeartbeats 4000000 in
theorem b_X1_reach_j53k6 (X : CX p s m args c cX1_reach 6 RX1 D aC ad sg A H0) {M : Mem} {o : (Int × Int) ⊕ ((Int × Int) ⊕ (Int))} (HC : ∀ (y2 : Int) (y3 : Int) (H : Heap) (locs : List Loc) (ls : Array Slot), o = .inl (y2, y3) → inR y2 → inR y3 → lv_has ls 6 [(0, .ref (ad 3)), (2, .int (i2 y2)), (3, .int (i2 y3))] → WS D aC ad A H0 M H locs → W p l e rm_X1_reach s m args below meth c H locs 0 0 Q (F0 m 6 ls [])) (HE : ∀ (y2 : Int) (y3 : Int) (H : Heap) (locs : List Loc) (ls : Array Slot), o = .inr (.inl (y2, y3)) → inR y2 → inR y3 → lv_has ls 6 [(0, .ref (ad 3)), (2, .int (i2 y2)), (3, .int (i2 y3))] → WS D aC ad A H0 M H locs → W p l e rm_X1_reach s m args below meth c H locs 0 0 Q (F0 m 67 ls [])) (HR : ∀ (r : Int) (H : Heap) (locs : List Loc) (pc : Nat) (ls : Array Slot), o = .inr (.inr r) → inR r → WS D aC ad A H0 M H locs → decode cX1_reach pc = .ok (.ireturn, 1) → W p l e rm_X1_reach s m args below meth c H locs 0 0 Q (F0 m pc ls [.int (i2 r)])) (v2 : Int) (hv2 : inR v2) (v3 : Int) (hv3 : inR v3) (v4 : Int) (hv4 : inR v4) (hf : f_X1_reach_j53k6 v2 v3 v4 M = some o) {H : Heap} {locs : List Loc} {ls : Array Slot} (hl : lv_has ls 6 [(0, .ref (ad 3)), (2, .int (i2 v2)), (3, .int (i2 v3)), (4, .int (i2 v4))]) (w : WS D aC ad A H0 M H locs) : W p l e rm_X1_reach s m args below meth c H locs 0 0 Q (F0 m 53 ls []) := by
  have hx := X.1.1
  have hb := X.1.2.1
  unfold f_X1_reach_j53k6 at hf
  refine lv_iload_n hx hb dX1_reach_53 rfl (lv_at hl 1 rfl) ?_
  refine lv_iload hx hb dX1_reach_54 (lv_at hl 3 rfl) ?_
  refine g_icmp_ne (tgt := 61) X hv2 hv4 dX1_reach_56 (by decide) (fun cd => ?_) (fun cd => ?_)
  · replace hf := ite_f cd hf
    obtain ⟨v3_2, ev3_2, hf⟩ := lt_some hf
    have hv3_2 : inR v3_2 := inR_of ev3_2 (inR_wrap _)
    refine lv_iinc (v := i2 v3_2) (lv' := [(3, .int (i2 v3_2)), (0, .ref (ad 3)), (2, .int (i2 v2)), (4, .int (i2 v4))]) hx hb dX1_reach_61 hl (k := 2) rfl (by rw [ev3_2]; exact i2_add _ _) (by decide) rfl (fun ls hl => ?_)
    refine lv_goto (tgt := 6) hx hb dX1_reach_64 (by decide) ?_
    exact HC v2 v3_2 _ _ _ (Option.some.inj hf).symm hv2 hv3_2 (lv_sub hl [1, 2, 0] rfl) w
  · replace hf := ite_t cd hf
    refine lv_iload_n hx hb dX1_reach_59 rfl (lv_at hl 1 rfl) ?_
    exact HR v2 _ _ _ _ (Option.some.inj hf).symm hv2 w dX1_reach_60
set_option maxRecDepth 100000 in
set_option maxHeartbeats 4000000 in
theorem b_X1_reach_s6 (X : CX p s m args c cX1_reach 6 RX1 D aC ad sg A H0) {M : Mem} {o : (Int × Int) ⊕ ((Int × Int) ⊕ (Int))} (HC : ∀ (y2 : Int) (y3 : Int) (H : Heap) (locs : List Loc) (ls : Array Slot), o = .inl (y2, y3) → inR y2 → inR y3 → lv_has ls 6 [(0, .ref (ad 3)), (2, .int (i2 y2)), (3, .int (i2 y3))] → WS D aC ad A H0 M H locs → W p l e rm_X1_reach s m args below meth c H locs 0 0 Q (F0 m 6 ls [])) (HE : ∀ (y2 : Int) (y3 : Int) (H : Heap) (locs : List Loc) (ls : Array Slot), o = .inr (.inl (y2, y3)) → inR y2 → inR y3 → lv_has ls 6 [(0, .ref (ad 3)), (2, .int (i2 y2)), (3, .int (i2 y3))] → WS D aC ad A H0 M H locs → W p l e rm_X1_reach s m args below meth c H locs 0 0 Q (F0 m 67 ls [])) (HR : ∀ (r : Int) (H : Heap) (locs : List Loc) (pc : Nat) (ls : Array Slot), o = .inr (.inr r) → inR r → WS D aC ad A H0 M H locs → decode cX1_reach pc = .ok (.ireturn, 1) → W p l e rm_X1_reach s m args below meth c H locs 0 0 Q (F0 m pc ls [.int (i2 r)])) (v2 : Int) (hv2 : inR v2) (v3 : Int) (hv3 : inR v3) (hf : f_X1_reach_s6 M v2 v3 = some o) {H : Heap} {locs : List Loc} {ls : Array Slot} (hl : lv_has ls 6 [(0, .ref (ad 3)), (2, .int (i2 v2)), (3, .int (i2 v3))]) (w : WS D aC ad A H0 M H locs) : W p l e rm_X1_reach s m args below meth c H locs 0 0 Q (F0 m 6 ls []) := by
  have hx := X.1.1
  have hb := X.1.2.1
  unfold f_X1_reach_s6 at hf
  refine lv_iload_n hx hb dX1_reach_6 rfl (lv_at hl 2 rfl) ?_
  refine lv_aload_n hx hb dX1_reach_7 rfl (lv_at hl 0 rfl) ?_
  refine g_geti X w fg_X1_61 KD_3 FR_3_0 dX1_reach_8 ?_
  refine g_icmp_ge (tgt := 67) X hv3 (w.2.2 _ _) dX1_reach_11 (by decide) (fun cd => ?_) (fun cd => ?_)
  · replace hf := ite_t cd hf
    exact HE v2 v3 _ _ _ (Option.some.inj hf).symm hv2 hv3 hl w
  · replace hf := ite_f cd hf
    refine lv_iload_n hx hb dX1_reach_14 rfl (lv_at hl 1 rfl) ?_
    refine g_ist (v := v2) (lv' := [(4, .int (i2 v2)), (0, .ref (ad 3)), (2, .int (i2 v2)), (3, .int (i2 v3))]) X rfl dX1_reach_15 hl (by decide) rfl (fun ls hl => ?_)
    refine g_iconst X dX1_reach_17 ?_
    refine g_ist (v := 0) (lv' := [(5, .int (i2 0)), (4, .int (i2 v2)), (0, .ref (ad 3)), (2, .int (i2 v2)), (3, .int (i2 v3))]) X rfl dX1_reach_18 hl (by decide) rfl (fun ls hl => ?_)
    obtain ⟨q, hq, h1⟩ := obn_some hf
    exact l_X1_reach_20 X v3 hv3 v2 hv2 (out := q) (fun y2 y5 H locs ls eq hy2 hy5 hl w => b_X1_reach_j53k6 X  HC HE HR y2 hy2 v3 hv3 v2 hv2 (by subst eq; exact h1) (lv_sub hl [0, 1, 2, 3] rfl) w)  FU v2 0 hq hv2 (inL rfl) (lv_sub hl [2, 3, 4, 1, 0] rfl) w
set_option maxRecDepth 100000 in
set_option maxHeartbeats 4000000 in
theorem l_X1_reach_6 (X : CX p s m args c cX1_reach 6 RX1 D aC ad sg A H0) {M : Mem} {out : (Int × Int) ⊕ (Int)} (HE : ∀ (y2 : Int) (y3 : Int) (H : Heap) (locs : List Loc) (ls : Array Slot), out = .inl (y2, y3) → inR y2 → inR y3 → lv_has ls 6 [(0, .ref (ad 3)), (2, .int (i2 y2)), (3, .int (i2 y3))] → WS D aC ad A H0 M H locs → W p l e rm_X1_reach s m args below meth c H locs 0 0 Q (F0 m 67 ls [])) (HR : ∀ (r : Int) (H : Heap) (locs : List Loc) (pc : Nat) (ls : Array Slot), out = .inr r → inR r → WS D aC ad A H0 M H locs → decode cX1_reach pc = .ok (.ireturn, 1) → W p l e rm_X1_reach s m args below meth c H locs 0 0 Q (F0 m pc ls [.int (i2 r)])) : ∀ (n : Nat) (v2 : Int) (v3 : Int), whl (fun s => f_X1_reach_s6 M s.1 s.2) n (v2, v3) = some out → inR v2 → inR v3 → ∀ {H : Heap} {locs : List Loc} {ls : Array Slot}, lv_has ls 6 [(0, .ref (ad 3)), (2, .int (i2 v2)), (3, .int (i2 v3))] → WS D aC ad A H0 M H locs → W p l e rm_X1_reach s m args below meth c H locs 0 0 Q (F0 m 6 ls []) := by
  intro n
  induction n with
  | zero => intro v2 v3 hf; exact (whl_zero hf).elim
  | succ n ih =>
    intro v2 v3 hf hv2 hv3 H locs ls hl w
    obtain ⟨o, hf, hk1, hk2⟩ := whl_step hf
    exact b_X1_reach_s6 X  (fun y2 y3 H locs ls eo hy2 hy3 hl w => ih y2 y3 (hk1 _ eo) hy2 hy3 hl w) (fun y2 y3 H locs ls eo hy2 hy3 hl w => HE y2 y3 H locs ls (hk2 _ eo).symm hy2 hy3 hl w) (fun r H locs pc ls eo hP w dg => HR r H locs pc ls (hk2 _ eo).symm hP w dg) v2 hv2 v3 hv3 hf hl w
set_option maxRecDepth 100000 in
set_option maxHeartbeats 4000000 in
theorem b_X1_reach_j67 (X : CX p s m args c cX1_reach 6 RX1 D aC ad sg A H0) {M : Mem} {o : Int} (HR : ∀ (r : Int) (H : Heap) (locs : List Loc) (pc : Nat) (ls : Array Slot), o = r → inR r → WS D aC ad A H0 M H locs → decode cX1_reach pc = .ok (.ireturn, 1) → W p l e rm_X1_reach s m args below meth c H locs 0 0 Q (F0 m pc ls [.int (i2 r)])) (v2 : Int) (hv2 : inR v2) (hf : f_X1_reach_j67 v2 M = some o) {H : Heap} {locs : List Loc} {ls : Array Slot} (hl : lv_has ls 6 [(2, .int (i2 v2))]) (w : WS D aC ad A H0 M H locs) : W p l e rm_X1_reach s m args below meth c H locs 0 0 Q (F0 m 67 ls []) := by
  have hx := X.1.1
  have hb := X.1.2.1
  unfold f_X1_reach_j67 at hf
  refine lv_iload_n hx hb dX1_reach_67 rfl (lv_at hl 0 rfl) ?_
  exact HR v2 _ _ _ _ (Option.some.inj hf).symm hv2 w dX1_reach_68
set_option maxRecDepth 100000 in
set_option maxHeartbeats 4000000 in
theorem b_X1_reach_0 (X : CX p s m args c cX1_reach 6 RX1 D aC ad sg A H0) {M : Mem} {o : Int} (HR : ∀ (r : Int) (H : Heap) (locs : List Loc) (pc : Nat) (ls : Array Slot), o = r → inR r → WS D aC ad A H0 M H locs → decode cX1_reach pc = .ok (.ireturn, 1) → W p l e rm_X1_reach s m args below meth c H locs 0 0 Q (F0 m pc ls [.int (i2 r)])) (p1 : Int) (hp1 : inR p1) (hf : f_X1_reach p1 M = some o) {H : Heap} {locs : List Loc} {ls : Array Slot} (hl : lv_has ls 6 [(0, .ref (ad 3)), (1, .int (i2 p1))]) (w : WS D aC ad A H0 M H locs) : W p l e rm_X1_reach s m args below meth c H locs 0 0 Q (F0 m 0 ls []) := by
  have hx := X.1.1
  have hb := X.1.2.1
  unfold f_X1_reach at hf
  refine g_iconst X dX1_reach_0 ?_
  refine lv_iload_n hx hb dX1_reach_1 rfl (lv_at hl 1 rfl) ?_
  refine g_ishl X dX1_reach_2 ?_
  obtain ⟨v2, ev2, hf⟩ := lt_some hf
  have hv2 : inR v2 := inR_of ev2 (inR_toInt _)
  refine g_istn (v := v2) (lv' := [(2, .int (i2 v2)), (0, .ref (ad 3)), (1, .int (i2 p1))]) X ev2 dX1_reach_3 rfl hl (by decide) rfl (fun ls hl => ?_)
  refine g_iconst X dX1_reach_4 ?_
  refine g_istn (v := 1) (lv' := [(3, .int (i2 1)), (2, .int (i2 v2)), (0, .ref (ad 3)), (1, .int (i2 p1))]) X rfl dX1_reach_5 rfl hl (by decide) rfl (fun ls hl => ?_)
  obtain ⟨q, hq, h1, h2⟩ := lpr_some hf
  exact l_X1_reach_6 X  (out := q) (fun y2 y3 H locs ls eq hy2 hy3 hl w => b_X1_reach_j67 X  HR y2 hy2 (h1 _ eq) (lv_sub hl [1] rfl) w) (fun r H locs pc ls eq hP w dg => HR r H locs pc ls (Option.some.inj (h2 _ eq)).symm hP w dg) FU v2 1 hq hv2 (inL rfl) (lv_sub hl [2, 1, 0] rfl) w
set_option maxRecDepth 100000 in
set_option maxHeartbeats 4000000 in
theorem k_X1_reach {l : Launch} {D : va_G} {aC : Nat → ClassId} {ad : Nat → Nat} {sg : SG} (hi : Inj ad) (p1 : Int) (hp1 : inR p1) {M : Mem} (hM : inM M) {r : Int} (hf : f_X1_reach p1 M = some r) : MetI l D aC ad sg yX1_reach cX1_reach 6 (some .int) rm_X1_reach 0 0 [.ref (ad 3), .int (i2 p1)] M r M := by
  refine MetI.ofI (by decide +kernel) (nle rfl) hi hM (fun p e s m args below meth c Q H0 ls X hl w hret => ?_)
  exact b_X1_reach_0 X  (fun r1 H locs pc ls eo hP w dg => by cases eo; exact hret H locs pc ls hP w dg) p1 hp1 hf hl w
set_option maxRecDepth 100000 in
set_option maxHeartbeats 4000000 in
theorem b_X1_wentBadly_0 (X : CX p s m args c cX1_wentBadly 2 RX1 D aC ad sg A H0) {M : Mem} {o : Int} (HR : ∀ (r : Int) (H : Heap) (locs : List Loc) (pc : Nat) (ls : Array Slot), o = r → isZ r → WS D aC ad A H0 M H locs → decode cX1_wentBadly pc = .ok (.ireturn, 1) → W p l e rm_X1_wentBadly s m args below meth c H locs 0 0 Q (F0 m pc ls [.int (i2 r)])) (p1 : Int) (hp1 : inR p1) (hf : f_X1_wentBadly p1 M = some o) {H : Heap} {locs : List Loc} {ls : Array Slot} (hl : lv_has ls 2 [(0, .ref (ad 3)), (1, .int (i2 p1))]) (w : WS D aC ad A H0 M H locs) : W p l e rm_X1_wentBadly s m args below meth c H locs 0 0 Q (F0 m 0 ls []) := by
  have hx := X.1.1
  have hb := X.1.2.1
  unfold f_X1_wentBadly at hf
  refine lv_aload_n hx hb dX1_wentBadly_0 rfl (lv_at hl 0 rfl) ?_
  refine g_getr X w fg_X1_42 KD_3 FR_3_11 dX1_wentBadly_1 ?_
  refine lv_iload_n hx hb dX1_wentBadly_4 rfl (lv_at hl 1 rfl) ?_
  obtain ⟨hg, hf⟩ := gd_some hf
  refine g_iald X w KD_14 hp1 hg dX1_wentBadly_5 ?_
  refine g_iconst X dX1_wentBadly_6 ?_
  refine g_icmp_eq (tgt := 31) X (w.2.2 _ _) (inL rfl) dX1_wentBadly_7 (by decide) (fun cd => ?_) (fun cd => ?_)
  · replace hf := ite_t cd hf
    refine g_iconst X dX1_wentBadly_31 ?_
    exact HR 0 _ _ _ _ (Option.some.inj hf).symm (Or.inl rfl) w dX1_wentBadly_32
  · replace hf := ite_f cd hf
    refine lv_aload_n hx hb dX1_wentBadly_10 rfl (lv_at hl 0 rfl) ?_
    refine g_getr X w fg_X1_42 KD_3 FR_3_11 dX1_wentBadly_11 ?_
    refine lv_iload_n hx hb dX1_wentBadly_14 rfl (lv_at hl 1 rfl) ?_
    obtain ⟨hg_2, hf⟩ := gd_some hf
    refine g_iald X w KD_14 hp1 hg_2 dX1_wentBadly_15 ?_
    refine lv_aload_n hx hb dX1_wentBadly_16 rfl (lv_at hl 0 rfl) ?_
    refine g_getr X w fg_X1_45 KD_3 FR_3_12 dX1_wentBadly_17 ?_
    refine lv_iload_n hx hb dX1_wentBadly_20 rfl (lv_at hl 1 rfl) ?_
    obtain ⟨hg_3, hf⟩ := gd_some hf
    refine g_iald X w KD_15 hp1 hg_3 dX1_wentBadly_21 ?_
    refine g_iadd X dX1_wentBadly_22 ?_
    refine g_iconst X dX1_wentBadly_23 ?_
    refine g_icmp_ge (tgt := 31) X (inR_wrap _) (inL rfl) dX1_wentBadly_24 (by decide) (fun cd_2 => ?_) (fun cd_2 => ?_)
    · replace hf := ite_t cd_2 hf
      refine g_iconst X dX1_wentBadly_31 ?_
      exact HR 0 _ _ _ _ (Option.some.inj hf).symm (Or.inl rfl) w dX1_wentBadly_32
    · replace hf := ite_f cd_2 hf
      refine g_iconst X dX1_wentBadly_27 ?_
      refine lv_goto (tgt := 32) hx hb dX1_wentBadly_28 (by decide) ?_
      exact HR 1 _ _ _ _ (Option.some.inj hf).symm (Or.inr rfl) w dX1_wentBadly_32
set_option maxRecDepth 100000 in
set_option maxHeartbeats 4000000 in
theorem k_X1_wentBadly {l : Launch} {D : va_G} {aC : Nat → ClassId} {ad : Nat → Nat} {sg : SG} (hi : Inj ad) (p1 : Int) (hp1 : inR p1) {M : Mem} (hM : inM M) {r : Int} (hf : f_X1_wentBadly p1 M = some r) : MetI l D aC ad sg yX1_wentBadly cX1_wentBadly 2 (some .boolean) rm_X1_wentBadly 0 0 [.ref (ad 3), .int (i2 p1)] M r M := by
  refine MetI.ofZ (by decide +kernel) (nle rfl) hi hM (fun p e s m args below meth c Q H0 ls X hl w hret => ?_)
  exact b_X1_wentBadly_0 X  (fun r1 H locs pc ls eo hP w dg => by cases eo; exact hret H locs pc ls hP w dg) p1 hp1 hf hl w
set_option maxRecDepth 100000 in
set_option maxHeartbeats 4000000 in
theorem b_X1_addRegret_0 (X : CX p s m args c cX1_addRegret 4 RX1 D aC ad sg A H0) {o : Mem} (HR : ∀ (M1 : Mem) (H : Heap) (locs : List Loc) (pc : Nat) (ls : Array Slot), o = M1 → WS D aC ad A H0 M1 H locs → decode cX1_addRegret pc = .ok (.return_, 1) → W p l e rm_X1_addRegret s m args below meth c H locs 0 0 Q (F0 m pc ls [])) (p1 : Int) (hp1 : inR p1) (p2 : Int) (hp2 : inR p2) (M : Mem) (hf : f_X1_addRegret p1 p2 M = some o) {H : Heap} {locs : List Loc} {ls : Array Slot} (hl : lv_has ls 4 [(0, .ref (ad 3)), (1, .int (i2 p1)), (2, .int (i2 p2))]) (w : WS D aC ad A H0 M H locs) : W p l e rm_X1_addRegret s m args below meth c H locs 0 0 Q (F0 m 0 ls []) := by
  have hx := X.1.1
  have hb := X.1.2.1
  unfold f_X1_addRegret at hf
  refine lv_aload_n hx hb dX1_addRegret_0 rfl (lv_at hl 0 rfl) ?_
  refine g_getr X w fg_X1_39 KD_3 FR_3_10 dX1_addRegret_1 ?_
  refine lv_iload_n hx hb dX1_addRegret_4 rfl (lv_at hl 1 rfl) ?_
  refine g_bipush X dX1_addRegret_5 (by decide) ?_
  refine g_imul X dX1_addRegret_7 ?_
  refine lv_iload_n hx hb dX1_addRegret_8 rfl (lv_at hl 2 rfl) ?_
  refine g_iadd X dX1_addRegret_9 ?_
  obtain ⟨hg, hf⟩ := gd_some hf
  refine g_iald X w KD_13 (inR_wrap _) hg dX1_addRegret_10 ?_
  refine g_iconst X dX1_addRegret_11 ?_
  refine g_iadd X dX1_addRegret_12 ?_
  refine g_bipush X dX1_addRegret_13 (by decide) ?_
  refine g_min X (inR_wrap _) (inL rfl) hl.1 mw_X1_72 ⟨nle rfl, nle rfl⟩ (nle rfl) (nle rfl) (nle rfl) dX1_addRegret_15 ?_
  obtain ⟨v3, ev3, hf⟩ := lt_some hf
  have hv3 : inR v3 := inR_of ev3 (inR_ite (inL rfl) (inR_wrap _))
  refine g_istn (v := v3) (lv' := [(3, .int (i2 v3)), (0, .ref (ad 3)), (1, .int (i2 p1)), (2, .int (i2 p2))]) X ev3 dX1_addRegret_18 rfl hl (by decide) rfl (fun ls hl => ?_)
  refine lv_aload_n hx hb dX1_addRegret_19 rfl (lv_at hl 1 rfl) ?_
  refine g_getr X w fg_X1_39 KD_3 FR_3_10 dX1_addRegret_20 ?_
  refine lv_iload_n hx hb dX1_addRegret_23 rfl (lv_at hl 2 rfl) ?_
  refine g_bipush X dX1_addRegret_24 (by decide) ?_
  refine g_imul X dX1_addRegret_26 ?_
  refine lv_iload_n hx hb dX1_addRegret_27 rfl (lv_at hl 3 rfl) ?_
  refine g_iadd X dX1_addRegret_28 ?_
  refine lv_iload_n hx hb dX1_addRegret_29 rfl (lv_at hl 0 rfl) ?_
  obtain ⟨hg_2, hf⟩ := gd_some hf
  obtain ⟨M_2, eM_2, hf⟩ := lt_some hf
  refine g_iast X w KD_13 (inR_wrap _) hg_2 hv3 dX1_addRegret_30 (fun H locs w_M_2 => ?_)
  rw [← eM_2] at w_M_2
  refine lv_aload_n hx hb dX1_addRegret_31 rfl (lv_at hl 1 rfl) ?_
  refine g_getr X w_M_2 fg_X1_39 KD_3 FR_3_10 dX1_addRegret_32 ?_
  refine lv_iload_n hx hb dX1_addRegret_35 rfl (lv_at hl 3 rfl) ?_
  refine g_bipush X dX1_addRegret_36 (by decide) ?_
  refine g_imul X dX1_addRegret_38 ?_
  refine lv_iload_n hx hb dX1_addRegret_39 rfl (lv_at hl 2 rfl) ?_
  refine g_iadd X dX1_addRegret_40 ?_
  refine lv_iload_n hx hb dX1_addRegret_41 rfl (lv_at hl 0 rfl) ?_
  obtain ⟨hg_3, hf⟩ := gd_some hf
  obtain ⟨M_3, eM_3, hf⟩ := lt_some hf
  refine g_iast X w_M_2 KD_13 (inR_wrap _) hg_3 hv3 dX1_addRegret_42 (fun H locs w_M_3 => ?_)
  rw [← eM_3] at w_M_3
  exact HR M_3 _ _ _ _ (Option.some.inj hf).symm w_M_3 dX1_addRegret_43
set_option maxRecDepth 100000 in
set_option maxHeartbeats 4000000 in
theorem k_X1_addRegret {l : Launch} {D : va_G} {aC : Nat → ClassId} {ad : Nat → Nat} {sg : SG} (hi : Inj ad) (p1 : Int) (hp1 : inR p1) (p2 : Int) (hp2 : inR p2) {M : Mem} (hM : inM M) {M' : Mem} (hf : f_X1_addRegret p1 p2 M = some M') : MetV l D aC ad sg yX1_addRegret cX1_addRegret 4 rm_X1_addRegret 0 0 [.ref (ad 3), .int (i2 p1), .int (i2 p2)] M M' := by
  refine MetV.of (by decide +kernel) (nle rfl) hi hM (fun p e s m args below meth c Q H0 ls X hl w hret => ?_)
  exact b_X1_addRegret_0 X  (fun M1 H locs pc ls eo w dg => by cases eo; exact hret H locs pc ls w dg) p1 hp1 p2 hp2 M hf hl w
end
section
variable {p : Program} {l : Launch} {e : Env} {s : State} {m : MethodId} {args : Array Value} {below : List Frame} {meth : Method} {c : Code} {Q : State → Prop} {D : va_G} {aC : Nat → ClassId} {ad : Nat → Nat} {sg : SG} {A : Nat → Prop} {H0 : Heap}
set_option maxRecDepth 100000 in
set_option maxHeartbeats 4000000 in
theorem b_X5_learn_s10 (X : CX p s m args c cX5_learn 3 RX5 D aC ad sg A H0) (v1 : Int) (hv1 : inR v1) {o : (Int × Mem) ⊕ (Int × Mem)} (HC : ∀ (y2 : Int) (M1 : Mem) (H : Heap) (locs : List Loc) (ls : Array Slot), o = .inl (y2, M1) → inR y2 → lv_has ls 3 [(0, .ref (ad 17)), (1, .int (i2 v1)), (2, .int (i2 y2))] → WS D aC ad A H0 M1 H locs → W p l e rm_X5_learn s m args below meth c H locs 0 0 Q (F0 m 10 ls [])) (HE : ∀ (y2 : Int) (M1 : Mem) (H : Heap) (locs : List Loc) (ls : Array Slot), o = .inr (y2, M1) → inR y2 → lv_has ls 3 [(0, .ref (ad 17)), (1, .int (i2 v1)), (2, .int (i2 y2))] → WS D aC ad A H0 M1 H locs → W p l e rm_X5_learn s m args below meth c H locs 0 0 Q (F0 m 70 ls [])) (v2 : Int) (hv2 : inR v2) (M : Mem) (hf : f_X5_learn_s10 v1 v2 M = some o) {H : Heap} {locs : List Loc} {ls : Array Slot} (hl : lv_has ls 3 [(0, .ref (ad 17)), (1, .int (i2 v1)), (2, .int (i2 v2))]) (w : WS D aC ad A H0 M H locs) : W p l e rm_X5_learn s m args below meth c H locs 0 0 Q (F0 m 10 ls []) := by
  have hx := X.1.1
  have hb := X.1.2.1
  unfold f_X5_learn_s10 at hf
  refine lv_iload_n hx hb dX5_learn_10 rfl (lv_at hl 2 rfl) ?_
  refine lv_aload_n hx hb dX5_learn_11 rfl (lv_at hl 0 rfl) ?_
  refine g_geti X w fg_X5_30 KD_17 FR_17_0 dX5_learn_12 ?_
  refine g_icmp_ge (tgt := 70) X hv2 (w.2.2 _ _) dX5_learn_15 (by decide) (fun cd => ?_) (fun cd => ?_)
  · replace hf := ite_t cd hf
    exact HE v2 M _ _ _ (Option.some.inj hf).symm hv2 hl w
  · replace hf := ite_f cd hf
    refine lv_aload_n hx hb dX5_learn_18 rfl (lv_at hl 0 rfl) ?_
    refine g_getr X w fg_X5_24 KD_17 FR_17_5 dX5_learn_19 ?_
    refine lv_iload_n hx hb dX5_learn_22 rfl (lv_at hl 2 rfl) ?_
    obtain ⟨hg, hf⟩ := gd_some hf
    refine g_iald X w KD_22 hv2 hg dX5_learn_23 ?_
    refine lv_iload_n hx hb dX5_learn_24 rfl (lv_at hl 1 rfl) ?_
    refine g_icmp_gt (tgt := 64) X (w.2.2 _ _) hv1 dX5_learn_25 (by decide) (fun cd_2 => ?_) (fun cd_2 => ?_)
    · replace hf := ite_t cd_2 hf
      obtain ⟨v2_2, ev2_2, hf⟩ := lt_some hf
      have hv2_2 : inR v2_2 := inR_of ev2_2 (inR_wrap _)
      refine lv_iinc (v := i2 v2_2) (lv' := [(2, .int (i2 v2_2)), (0, .ref (ad 17)), (1, .int (i2 v1))]) hx hb dX5_learn_64 hl (k := 2) rfl (by rw [ev2_2]; exact i2_add _ _) (by decide) rfl (fun ls hl => ?_)
      refine lv_goto (tgt := 10) hx hb dX5_learn_67 (by decide) ?_
      exact HC v2_2 M _ _ _ (Option.some.inj hf).symm hv2_2 (lv_sub hl [1, 2, 0] rfl) w
    · replace hf := ite_f cd_2 hf
      refine lv_aload_n hx hb dX5_learn_28 rfl (lv_at hl 0 rfl) ?_
      refine g_getr X w fg_X5_27 KD_17 FR_17_6 dX5_learn_29 ?_
      refine lv_aload_n hx hb dX5_learn_32 rfl (lv_at hl 0 rfl) ?_
      refine g_getr X w fg_X5_18 KD_17 FR_17_3 dX5_learn_33 ?_
      refine lv_iload_n hx hb dX5_learn_36 rfl (lv_at hl 2 rfl) ?_
      obtain ⟨hg_2, hf⟩ := gd_some hf
      refine g_iald X w KD_20 hv2 hg_2 dX5_learn_37 ?_
      refine g_iconst X dX5_learn_38 ?_
      refine g_imul X dX5_learn_39 ?_
      refine lv_aload_n hx hb dX5_learn_40 rfl (lv_at hl 0 rfl) ?_
      refine g_getr X w fg_X5_11 KD_17 FR_17_1 dX5_learn_41 ?_
      refine lv_iload_n hx hb dX5_learn_44 rfl (lv_at hl 2 rfl) ?_
      obtain ⟨hg_3, hf⟩ := gd_some hf
      refine g_iald X w KD_18 hv2 hg_3 dX5_learn_45 ?_
      refine g_iadd X dX5_learn_46 ?_
      refine g_bipush X dX5_learn_47 (by decide) ?_
      refine g_imul X dX5_learn_49 ?_
      refine lv_aload_n hx hb dX5_learn_50 rfl (lv_at hl 0 rfl) ?_
      refine g_getr X w fg_X5_15 KD_17 FR_17_2 dX5_learn_51 ?_
      refine lv_iload_n hx hb dX5_learn_54 rfl (lv_at hl 2 rfl) ?_
      obtain ⟨hg_4, hf⟩ := gd_some hf
      refine g_iald X w KD_19 hv2 hg_4 dX5_learn_55 ?_
      refine g_iadd X dX5_learn_56 ?_
      refine lv_aload_n hx hb dX5_learn_57 rfl (lv_at hl 0 rfl) ?_
      refine g_getr X w fg_X5_21 KD_17 FR_17_4 dX5_learn_58 ?_
      refine lv_iload_n hx hb dX5_learn_61 rfl (lv_at hl 2 rfl) ?_
      obtain ⟨hg_5, hf⟩ := gd_some hf
      refine g_iald X w KD_21 hv2 hg_5 dX5_learn_62 ?_
      obtain ⟨hg_6, hf⟩ := gd_some hf
      obtain ⟨M_2, eM_2, hf⟩ := lt_some hf
      refine g_iast X w KD_23 (inR_wrap _) hg_6 (w.2.2 _ _) dX5_learn_63 (fun H locs w_M_2 => ?_)
      rw [← eM_2] at w_M_2
      obtain ⟨v2_3, ev2_3, hf⟩ := lt_some hf
      have hv2_3 : inR v2_3 := inR_of ev2_3 (inR_wrap _)
      refine lv_iinc (v := i2 v2_3) (lv' := [(2, .int (i2 v2_3)), (0, .ref (ad 17)), (1, .int (i2 v1))]) hx hb dX5_learn_64 hl (k := 2) rfl (by rw [ev2_3]; exact i2_add _ _) (by decide) rfl (fun ls hl => ?_)
      refine lv_goto (tgt := 10) hx hb dX5_learn_67 (by decide) ?_
      exact HC v2_3 M_2 _ _ _ (Option.some.inj hf).symm hv2_3 (lv_sub hl [1, 2, 0] rfl) w_M_2
set_option maxRecDepth 100000 in
set_option maxHeartbeats 4000000 in
theorem l_X5_learn_10 (X : CX p s m args c cX5_learn 3 RX5 D aC ad sg A H0) (v1 : Int) (hv1 : inR v1) {out : Int × Mem} (HE : ∀ (y2 : Int) (M1 : Mem) (H : Heap) (locs : List Loc) (ls : Array Slot), out = (y2, M1) → inR y2 → lv_has ls 3 [(0, .ref (ad 17)), (1, .int (i2 v1)), (2, .int (i2 y2))] → WS D aC ad A H0 M1 H locs → W p l e rm_X5_learn s m args below meth c H locs 0 0 Q (F0 m 70 ls [])) : ∀ (n : Nat) (v2 : Int) (M : Mem), whl (fun s => f_X5_learn_s10 v1 s.1 s.2) n (v2, M) = some out → inR v2 → ∀ {H : Heap} {locs : List Loc} {ls : Array Slot}, lv_has ls 3 [(0, .ref (ad 17)), (1, .int (i2 v1)), (2, .int (i2 v2))] → WS D aC ad A H0 M H locs → W p l e rm_X5_learn s m args below meth c H locs 0 0 Q (F0 m 10 ls []) := by
  intro n
  induction n with
  | zero => intro v2 M hf; exact (whl_zero hf).elim
  | succ n ih =>
    intro v2 M hf hv2 H locs ls hl w
    obtain ⟨o, hf, hk1, hk2⟩ := whl_step hf
    exact b_X5_learn_s10 X v1 hv1 (fun y2 M1 H locs ls eo hy2 hl w => ih y2 M1 (hk1 _ eo) hy2 hl w) (fun y2 M1 H locs ls eo hy2 hl w => HE y2 M1 H locs ls (hk2 _ eo).symm hy2 hl w) v2 hv2 M hf hl w
set_option maxRecDepth 100000 in
set_option maxHeartbeats 4000000 in
theorem b_X5_learn_j70 (X : CX p s m args c cX5_learn 3 RX5 D aC ad sg A H0) {o : Mem} (HR : ∀ (M1 : Mem) (H : Heap) (locs : List Loc) (pc : Nat) (ls : Array Slot), o = M1 → WS D aC ad A H0 M1 H locs → decode cX5_learn pc = .ok (.return_, 1) → W p l e rm_X5_learn s m args below meth c H locs 0 0 Q (F0 m pc ls [])) (M : Mem) (hf : f_X5_learn_j70 M = some o) {H : Heap} {locs : List Loc} {ls : Array Slot} (hl : lv_has ls 3 []) (w : WS D aC ad A H0 M H locs) : W p l e rm_X5_learn s m args below meth c H locs 0 0 Q (F0 m 70 ls []) := by
  have hx := X.1.1
  have hb := X.1.2.1
  unfold f_X5_learn_j70 at hf
  exact HR M _ _ _ _ (Option.some.inj hf).symm w dX5_learn_70
set_option maxRecDepth 100000 in
set_option maxHeartbeats 4000000 in
theorem b_X5_learn_0 (X : CX p s m args c cX5_learn 3 RX5 D aC ad sg A H0) {o : Mem} (HR : ∀ (M1 : Mem) (H : Heap) (locs : List Loc) (pc : Nat) (ls : Array Slot), o = M1 → WS D aC ad A H0 M1 H locs → decode cX5_learn pc = .ok (.return_, 1) → W p l e rm_X5_learn s m args below meth c H locs 0 0 Q (F0 m pc ls [])) (p1 : Int) (hp1 : inR p1) (M : Mem) (hf : f_X5_learn p1 M = some o) {H : Heap} {locs : List Loc} {ls : Array Slot} (hl : lv_has ls 3 [(0, .ref (ad 17)), (1, .int (i2 p1))]) (w : WS D aC ad A H0 M H locs) : W p l e rm_X5_learn s m args below meth c H locs 0 0 Q (F0 m 0 ls []) := by
  have hx := X.1.1
  have hb := X.1.2.1
  unfold f_X5_learn at hf
  refine lv_aload_n hx hb dX5_learn_0 rfl (lv_at hl 0 rfl) ?_
  refine g_getr X w fg_X5_27 KD_17 FR_17_6 dX5_learn_1 ?_
  refine g_iconst X dX5_learn_4 ?_
  obtain ⟨M_2, hc, hf⟩ := obn_some hf
  refine g_csv (As := [.ref (ad 23), .int (i2 (-1))]) (rest := []) X w (k_J7_fill_53178 X.2.2.1 23 KA_23 (-1) (inL rfl) w.2.2 hc) lk_X5_34 ⟨rfl, rfl⟩ ⟨nle rfl, nle rfl⟩ ⟨nle rfl, nle rfl⟩ hl.1 rfl (nle rfl) dX5_learn_5 (fun H locs w_M_2 => ?_)
  refine g_iconst X dX5_learn_8 ?_
  refine g_istn (v := 0) (lv' := [(2, .int (i2 0)), (0, .ref (ad 17)), (1, .int (i2 p1))]) X rfl dX5_learn_9 rfl hl (by decide) rfl (fun ls hl => ?_)
  obtain ⟨q, hq, h1⟩ := obn_some hf
  exact l_X5_learn_10 X p1 hp1 (out := q) (fun y2 M1 H locs ls eq hy2 hl w => b_X5_learn_j70 X  HR M1 (by subst eq; exact h1) (lv_sub hl [] rfl) w)  FU 0 M_2 hq (inL rfl) (lv_sub hl [1, 2, 0] rfl) w_M_2
set_option maxRecDepth 100000 in
set_option maxHeartbeats 4000000 in
theorem k_X5_learn {l : Launch} {D : va_G} {aC : Nat → ClassId} {ad : Nat → Nat} {sg : SG} (hi : Inj ad) (p1 : Int) (hp1 : inR p1) {M : Mem} (hM : inM M) {M' : Mem} (hf : f_X5_learn p1 M = some M') : MetV l D aC ad sg yX5_learn cX5_learn 3 rm_X5_learn 0 0 [.ref (ad 17), .int (i2 p1)] M M' := by
  refine MetV.of (by decide +kernel) (nle rfl) hi hM (fun p e s m args below meth c Q H0 ls X hl w hret => ?_)
  exact b_X5_learn_0 X  (fun M1 H locs pc ls eo w dg => by cases eo; exact hret H locs pc ls w dg) p1 hp1 M hf hl w
set_option maxRecDepth 100000 in
set_option maxHeartbeats 4000000 in
theorem b_X5_scale_s38 (X : CX p s m args c cX5_scale 9 RX5 D aC ad sg A H0) (v2 : Int) (hv2 : inR v2) (v4 : Int) (hv4 : inR v4) (v5 : Int) (hv5 : inR v5) {M : Mem} {o : (Int × Int × Int) ⊕ (Int × Int × Int)} (HC : ∀ (y6 : Int) (y7 : Int) (y8 : Int) (H : Heap) (locs : List Loc) (ls : Array Slot), o = .inl (y6, y7, y8) → inR y6 → inR y7 → inR y8 → lv_has ls 9 [(0, .ref (ad 17)), (2, .int (i2 v2)), (4, .int (i2 v4)), (5, .int (i2 v5)), (6, .int (i2 y6)), (7, .int (i2 y7)), (8, .int (i2 y8))] → WS D aC ad A H0 M H locs → W p l e rm_X5_scale s m args below meth c H locs 0 0 Q (F0 m 38 ls [])) (HE : ∀ (y6 : Int) (y7 : Int) (y8 : Int) (H : Heap) (locs : List Loc) (ls : Array Slot), o = .inr (y6, y7, y8) → inR y6 → inR y7 → inR y8 → lv_has ls 9 [(0, .ref (ad 17)), (2, .int (i2 v2)), (4, .int (i2 v4)), (5, .int (i2 v5)), (6, .int (i2 y6)), (7, .int (i2 y7)), (8, .int (i2 y8))] → WS D aC ad A H0 M H locs → W p l e rm_X5_scale s m args below meth c H locs 0 0 Q (F0 m 92 ls [])) (v6 : Int) (hv6 : inR v6) (v7 : Int) (hv7 : inR v7) (v8 : Int) (hv8 : inR v8) (hf : f_X5_scale_s38 v2 v4 v5 M v6 v7 v8 = some o) {H : Heap} {locs : List Loc} {ls : Array Slot} (hl : lv_has ls 9 [(0, .ref (ad 17)), (2, .int (i2 v2)), (4, .int (i2 v4)), (5, .int (i2 v5)), (6, .int (i2 v6)), (7, .int (i2 v7)), (8, .int (i2 v8))]) (w : WS D aC ad A H0 M H locs) : W p l e rm_X5_scale s m args below meth c H locs 0 0 Q (F0 m 38 ls []) := by
  have hx := X.1.1
  have hb := X.1.2.1
  unfold f_X5_scale_s38 at hf
  refine lv_iload hx hb dX5_scale_38 (lv_at hl 6 rfl) ?_
  refine g_bipush X dX5_scale_40 (by decide) ?_
  refine g_icmp_ge (tgt := 92) X hv8 (inL rfl) dX5_scale_42 (by decide) (fun cd => ?_) (fun cd => ?_)
  · replace hf := ite_t cd hf
    exact HE v6 v7 v8 _ _ _ (Option.some.inj hf).symm hv6 hv7 hv8 hl w
  · replace hf := ite_f cd hf
    refine lv_iload hx hb dX5_scale_45 (lv_at hl 6 rfl) ?_
    refine lv_iload_n hx hb dX5_scale_47 rfl (lv_at hl 1 rfl) ?_
    refine g_icmp_eq (tgt := 86) X hv8 hv2 dX5_scale_48 (by decide) (fun cd_2 => ?_) (fun cd_2 => ?_)
    · replace hf := ite_t cd_2 hf
      obtain ⟨v8_2, ev8_2, hf⟩ := lt_some hf
      have hv8_2 : inR v8_2 := inR_of ev8_2 (inR_wrap _)
      refine lv_iinc (v := i2 v8_2) (lv' := [(8, .int (i2 v8_2)), (0, .ref (ad 17)), (2, .int (i2 v2)), (4, .int (i2 v4)), (5, .int (i2 v5)), (6, .int (i2 v6)), (7, .int (i2 v7))]) hx hb dX5_scale_86 hl (k := 6) rfl (by rw [ev8_2]; exact i2_add _ _) (by decide) rfl (fun ls hl => ?_)
      refine lv_goto (tgt := 38) hx hb dX5_scale_89 (by decide) ?_
      exact HC v6 v7 v8_2 _ _ _ (Option.some.inj hf).symm hv6 hv7 hv8_2 (lv_sub hl [1, 2, 3, 4, 5, 6, 0] rfl) w
    · replace hf := ite_f cd_2 hf
      refine lv_aload_n hx hb dX5_scale_51 rfl (lv_at hl 0 rfl) ?_
      refine g_getr X w fg_X5_27 KD_17 FR_17_6 dX5_scale_52 ?_
      refine lv_iload hx hb dX5_scale_55 (lv_at hl 2 rfl) ?_
      refine lv_iload hx hb dX5_scale_57 (lv_at hl 6 rfl) ?_
      refine g_iadd X dX5_scale_59 ?_
      obtain ⟨hg, hf⟩ := gd_some hf
      refine g_iald X w KD_23 (inR_wrap _) hg dX5_scale_60 ?_
      refine g_iconst X dX5_scale_61 ?_
      refine g_icmp_eq (tgt := 86) X (w.2.2 _ _) (inL rfl) dX5_scale_62 (by decide) (fun cd_3 => ?_) (fun cd_3 => ?_)
      · replace hf := ite_t cd_3 hf
        obtain ⟨v8_3, ev8_3, hf⟩ := lt_some hf
        have hv8_3 : inR v8_3 := inR_of ev8_3 (inR_wrap _)
        refine lv_iinc (v := i2 v8_3) (lv' := [(8, .int (i2 v8_3)), (0, .ref (ad 17)), (2, .int (i2 v2)), (4, .int (i2 v4)), (5, .int (i2 v5)), (6, .int (i2 v6)), (7, .int (i2 v7))]) hx hb dX5_scale_86 hl (k := 6) rfl (by rw [ev8_3]; exact i2_add _ _) (by decide) rfl (fun ls hl => ?_)
        refine lv_goto (tgt := 38) hx hb dX5_scale_89 (by decide) ?_
        exact HC v6 v7 v8_3 _ _ _ (Option.some.inj hf).symm hv6 hv7 hv8_3 (lv_sub hl [1, 2, 3, 4, 5, 6, 0] rfl) w
      · replace hf := ite_f cd_3 hf
        obtain ⟨v7_2, ev7_2, hf⟩ := lt_some hf
        have hv7_2 : inR v7_2 := inR_of ev7_2 (inR_wrap _)
        refine lv_iinc (v := i2 v7_2) (lv' := [(7, .int (i2 v7_2)), (0, .ref (ad 17)), (2, .int (i2 v2)), (4, .int (i2 v4)), (5, .int (i2 v5)), (6, .int (i2 v6)), (8, .int (i2 v8))]) hx hb dX5_scale_65 hl (k := 5) rfl (by rw [ev7_2]; exact i2_add _ _) (by decide) rfl (fun ls hl => ?_)
        refine lv_aload_n hx hb dX5_scale_68 rfl (lv_at hl 1 rfl) ?_
        refine g_getr X w fg_X5_27 KD_17 FR_17_6 dX5_scale_69 ?_
        refine lv_iload hx hb dX5_scale_72 (lv_at hl 3 rfl) ?_
        refine lv_iload hx hb dX5_scale_74 (lv_at hl 6 rfl) ?_
        refine g_iadd X dX5_scale_76 ?_
        obtain ⟨hg_2, hf⟩ := gd_some hf
        refine g_iald X w KD_23 (inR_wrap _) hg_2 dX5_scale_77 ?_
        refine lv_iload hx hb dX5_scale_78 (lv_at hl 4 rfl) ?_
        refine g_icmp_ge (tgt := 86) X (w.2.2 _ _) hv5 dX5_scale_80 (by decide) (fun cd_4 => ?_) (fun cd_4 => ?_)
        · replace hf := ite_t cd_4 hf
          obtain ⟨v8_4, ev8_4, hf⟩ := lt_some hf
          have hv8_4 : inR v8_4 := inR_of ev8_4 (inR_wrap _)
          refine lv_iinc (v := i2 v8_4) (lv' := [(8, .int (i2 v8_4)), (7, .int (i2 v7_2)), (0, .ref (ad 17)), (2, .int (i2 v2)), (4, .int (i2 v4)), (5, .int (i2 v5)), (6, .int (i2 v6))]) hx hb dX5_scale_86 hl (k := 6) rfl (by rw [ev8_4]; exact i2_add _ _) (by decide) rfl (fun ls hl => ?_)
          refine lv_goto (tgt := 38) hx hb dX5_scale_89 (by decide) ?_
          exact HC v6 v7_2 v8_4 _ _ _ (Option.some.inj hf).symm hv6 hv7_2 hv8_4 (lv_sub hl [2, 3, 4, 5, 6, 1, 0] rfl) w
        · replace hf := ite_f cd_4 hf
          obtain ⟨v6_2, ev6_2, hf⟩ := lt_some hf
          have hv6_2 : inR v6_2 := inR_of ev6_2 (inR_wrap _)
          refine lv_iinc (v := i2 v6_2) (lv' := [(6, .int (i2 v6_2)), (7, .int (i2 v7_2)), (0, .ref (ad 17)), (2, .int (i2 v2)), (4, .int (i2 v4)), (5, .int (i2 v5)), (8, .int (i2 v8))]) hx hb dX5_scale_83 hl (k := 5) rfl (by rw [ev6_2]; exact i2_add _ _) (by decide) rfl (fun ls hl => ?_)
          obtain ⟨v8_5, ev8_5, hf⟩ := lt_some hf
          have hv8_5 : inR v8_5 := inR_of ev8_5 (inR_wrap _)
          refine lv_iinc (v := i2 v8_5) (lv' := [(8, .int (i2 v8_5)), (6, .int (i2 v6_2)), (7, .int (i2 v7_2)), (0, .ref (ad 17)), (2, .int (i2 v2)), (4, .int (i2 v4)), (5, .int (i2 v5))]) hx hb dX5_scale_86 hl (k := 6) rfl (by rw [ev8_5]; exact i2_add _ _) (by decide) rfl (fun ls hl => ?_)
          refine lv_goto (tgt := 38) hx hb dX5_scale_89 (by decide) ?_
          exact HC v6_2 v7_2 v8_5 _ _ _ (Option.some.inj hf).symm hv6_2 hv7_2 hv8_5 (lv_sub hl [3, 4, 5, 6, 1, 2, 0] rfl) w
set_option maxRecDepth 100000 in
set_option maxHeartbeats 4000000 in
theorem l_X5_scale_38 (X : CX p s m args c cX5_scale 9 RX5 D aC ad sg A H0) (v2 : Int) (hv2 : inR v2) (v4 : Int) (hv4 : inR v4) (v5 : Int) (hv5 : inR v5) {M : Mem} {out : Int × Int × Int} (HE : ∀ (y6 : Int) (y7 : Int) (y8 : Int) (H : Heap) (locs : List Loc) (ls : Array Slot), out = (y6, y7, y8) → inR y6 → inR y7 → inR y8 → lv_has ls 9 [(0, .ref (ad 17)), (2, .int (i2 v2)), (4, .int (i2 v4)), (5, .int (i2 v5)), (6, .int (i2 y6)), (7, .int (i2 y7)), (8, .int (i2 y8))] → WS D aC ad A H0 M H locs → W p l e rm_X5_scale s m args below meth c H locs 0 0 Q (F0 m 92 ls [])) : ∀ (n : Nat) (v6 : Int) (v7 : Int) (v8 : Int), whl (fun s => f_X5_scale_s38 v2 v4 v5 M s.1 s.2.1 s.2.2) n (v6, v7, v8) = some out → inR v6 → inR v7 → inR v8 → ∀ {H : Heap} {locs : List Loc} {ls : Array Slot}, lv_has ls 9 [(0, .ref (ad 17)), (2, .int (i2 v2)), (4, .int (i2 v4)), (5, .int (i2 v5)), (6, .int (i2 v6)), (7, .int (i2 v7)), (8, .int (i2 v8))] → WS D aC ad A H0 M H locs → W p l e rm_X5_scale s m args below meth c H locs 0 0 Q (F0 m 38 ls []) := by
  intro n
  induction n with
  | zero => intro v6 v7 v8 hf; exact (whl_zero hf).elim
  | succ n ih =>
    intro v6 v7 v8 hf hv6 hv7 hv8 H locs ls hl w
    obtain ⟨o, hf, hk1, hk2⟩ := whl_step hf
    exact b_X5_scale_s38 X v2 hv2 v4 hv4 v5 hv5 (fun y6 y7 y8 H locs ls eo hy6 hy7 hy8 hl w => ih y6 y7 y8 (hk1 _ eo) hy6 hy7 hy8 hl w) (fun y6 y7 y8 H locs ls eo hy6 hy7 hy8 hl w => HE y6 y7 y8 H locs ls (hk2 _ eo).symm hy6 hy7 hy8 hl w) v6 hv6 v7 hv7 v8 hv8 hf hl w
set_option maxRecDepth 100000 in
set_option maxHeartbeats 4000000 in
theorem b_X5_scale_j92 (X : CX p s m args c cX5_scale 9 RX5 D aC ad sg A H0) {M : Mem} {o : Int} (HR : ∀ (r : Int) (H : Heap) (locs : List Loc) (pc : Nat) (ls : Array Slot), o = r → inR r → WS D aC ad A H0 M H locs → decode cX5_scale pc = .ok (.ireturn, 1) → W p l e rm_X5_scale s m args below meth c H locs 0 0 Q (F0 m pc ls [.int (i2 r)])) (v6 : Int) (hv6 : inR v6) (v7 : Int) (hv7 : inR v7) (hf : f_X5_scale_j92 v6 v7 M = some o) {H : Heap} {locs : List Loc} {ls : Array Slot} (hl : lv_has ls 9 [(6, .int (i2 v6)), (7, .int (i2 v7))]) (w : WS D aC ad A H0 M H locs) : W p l e rm_X5_scale s m args below meth c H locs 0 0 Q (F0 m 92 ls []) := by
  have hx := X.1.1
  have hb := X.1.2.1
  unfold f_X5_scale_j92 at hf
  refine lv_iload hx hb dX5_scale_92 (lv_at hl 1 rfl) ?_
  refine g_if_ne (tgt := 101) X hv7 dX5_scale_94 (by decide) (fun cd => ?_) (fun cd => ?_)
  · replace hf := ite_f cd hf
    refine g_bipush X dX5_scale_101 (by decide) ?_
    refine lv_iload hx hb dX5_scale_103 (lv_at hl 0 rfl) ?_
    refine g_imul X dX5_scale_105 ?_
    refine lv_iload hx hb dX5_scale_106 (lv_at hl 1 rfl) ?_
    obtain ⟨hg, hf⟩ := gd_some hf
    refine g_idiv X hv7 hg dX5_scale_108 ?_
    exact HR (jdiv (wrap (10 * v6)) v7) _ _ _ _ (Option.some.inj hf).symm (inR_toInt _) w dX5_scale_109
  · replace hf := ite_t cd hf
    refine g_iconst X dX5_scale_97 ?_
    refine lv_goto (tgt := 109) hx hb dX5_scale_98 (by decide) ?_
    exact HR 5 _ _ _ _ (Option.some.inj hf).symm (inL rfl) w dX5_scale_109
set_option maxRecDepth 100000 in
set_option maxHeartbeats 4000000 in
theorem b_X5_scale_0 (X : CX p s m args c cX5_scale 9 RX5 D aC ad sg A H0) {M : Mem} {o : Int} (HR : ∀ (r : Int) (H : Heap) (locs : List Loc) (pc : Nat) (ls : Array Slot), o = r → inR r → WS D aC ad A H0 M H locs → decode cX5_scale pc = .ok (.ireturn, 1) → W p l e rm_X5_scale s m args below meth c H locs 0 0 Q (F0 m pc ls [.int (i2 r)])) (p1 : Int) (hp1 : inR p1) (p2 : Int) (hp2 : inR p2) (p3 : Int) (hp3 : inR p3) (hf : f_X5_scale p1 p2 p3 M = some o) {H : Heap} {locs : List Loc} {ls : Array Slot} (hl : lv_has ls 9 [(0, .ref (ad 17)), (1, .int (i2 p1)), (2, .int (i2 p2)), (3, .int (i2 p3))]) (w : WS D aC ad A H0 M H locs) : W p l e rm_X5_scale s m args below meth c H locs 0 0 Q (F0 m 0 ls []) := by
  have hx := X.1.1
  have hb := X.1.2.1
  unfold f_X5_scale at hf
  refine lv_iload_n hx hb dX5_scale_0 rfl (lv_at hl 3 rfl) ?_
  refine g_iconst X dX5_scale_1 ?_
  refine g_imul X dX5_scale_2 ?_
  refine lv_iload_n hx hb dX5_scale_3 rfl (lv_at hl 1 rfl) ?_
  refine g_iadd X dX5_scale_4 ?_
  refine g_bipush X dX5_scale_5 (by decide) ?_
  refine g_imul X dX5_scale_7 ?_
  obtain ⟨v4, ev4, hf⟩ := lt_some hf
  have hv4 : inR v4 := inR_of ev4 (inR_wrap _)
  refine g_ist (v := v4) (lv' := [(4, .int (i2 v4)), (0, .ref (ad 17)), (1, .int (i2 p1)), (2, .int (i2 p2)), (3, .int (i2 p3))]) X ev4 dX5_scale_8 hl (by decide) rfl (fun ls hl => ?_)
  refine lv_aload_n hx hb dX5_scale_10 rfl (lv_at hl 1 rfl) ?_
  refine g_getr X w fg_X5_27 KD_17 FR_17_6 dX5_scale_11 ?_
  refine lv_iload hx hb dX5_scale_14 (lv_at hl 0 rfl) ?_
  refine lv_iload_n hx hb dX5_scale_16 rfl (lv_at hl 3 rfl) ?_
  refine g_iadd X dX5_scale_17 ?_
  obtain ⟨hg, hf⟩ := gd_some hf
  refine g_iald X w KD_23 (inR_wrap _) hg dX5_scale_18 ?_
  obtain ⟨v5, ev5, hf⟩ := lt_some hf
  have hv5 : inR v5 := inR_of ev5 (w.2.2 _ _)
  refine g_ist (v := v5) (lv' := [(5, .int (i2 v5)), (4, .int (i2 v4)), (0, .ref (ad 17)), (1, .int (i2 p1)), (2, .int (i2 p2)), (3, .int (i2 p3))]) X ev5 dX5_scale_19 hl (by decide) rfl (fun ls hl => ?_)
  refine lv_iload hx hb dX5_scale_21 (lv_at hl 0 rfl) ?_
  refine g_iconst X dX5_scale_23 ?_
  refine g_icmp_ne (tgt := 29) X hv5 (inL rfl) dX5_scale_24 (by decide) (fun cd => ?_) (fun cd => ?_)
  · replace hf := ite_f cd hf
    refine g_iconst X dX5_scale_29 ?_
    refine g_ist (v := 0) (lv' := [(6, .int (i2 0)), (5, .int (i2 v5)), (4, .int (i2 v4)), (0, .ref (ad 17)), (1, .int (i2 p1)), (2, .int (i2 p2)), (3, .int (i2 p3))]) X rfl dX5_scale_30 hl (by decide) rfl (fun ls hl => ?_)
    refine g_iconst X dX5_scale_32 ?_
    refine g_ist (v := 0) (lv' := [(7, .int (i2 0)), (6, .int (i2 0)), (5, .int (i2 v5)), (4, .int (i2 v4)), (0, .ref (ad 17)), (1, .int (i2 p1)), (2, .int (i2 p2)), (3, .int (i2 p3))]) X rfl dX5_scale_33 hl (by decide) rfl (fun ls hl => ?_)
    refine g_iconst X dX5_scale_35 ?_
    refine g_ist (v := 0) (lv' := [(8, .int (i2 0)), (7, .int (i2 0)), (6, .int (i2 0)), (5, .int (i2 v5)), (4, .int (i2 v4)), (0, .ref (ad 17)), (1, .int (i2 p1)), (2, .int (i2 p2)), (3, .int (i2 p3))]) X rfl dX5_scale_36 hl (by decide) rfl (fun ls hl => ?_)
    obtain ⟨q, hq, h1⟩ := obn_some hf
    exact l_X5_scale_38 X p2 hp2 v4 hv4 v5 hv5 (out := q) (fun y6 y7 y8 H locs ls eq hy6 hy7 hy8 hl w => b_X5_scale_j92 X  HR y6 hy6 y7 hy7 (by subst eq; exact h1) (lv_sub hl [4, 5] rfl) w)  FU 0 0 0 hq (inL rfl) (inL rfl) (inL rfl) (lv_sub hl [5, 7, 4, 3, 2, 1, 0] rfl) w
  · replace hf := ite_t cd hf
    refine g_iconst X dX5_scale_27 ?_
    exact HR (-1) _ _ _ _ (Option.some.inj hf).symm (inL rfl) w dX5_scale_28
set_option maxRecDepth 100000 in
set_option maxHeartbeats 4000000 in
theorem k_X5_scale {l : Launch} {D : va_G} {aC : Nat → ClassId} {ad : Nat → Nat} {sg : SG} (hi : Inj ad) (p1 : Int) (hp1 : inR p1) (p2 : Int) (hp2 : inR p2) (p3 : Int) (hp3 : inR p3) {M : Mem} (hM : inM M) {r : Int} (hf : f_X5_scale p1 p2 p3 M = some r) : MetI l D aC ad sg yX5_scale cX5_scale 9 (some .int) rm_X5_scale 0 0 [.ref (ad 17), .int (i2 p1), .int (i2 p2), .int (i2 p3)] M r M := by
  refine MetI.ofI (by decide +kernel) (nle rfl) hi hM (fun p e s m args below meth c Q H0 ls X hl w hret => ?_)
  exact b_X5_scale_0 X  (fun r1 H locs pc ls eo hP w dg => by cases eo; exact hret H locs pc ls hP w dg) p1 hp1 p2 hp2 p3 hp3 hf hl w
set_option maxRecDepth 100000 in
set_option maxHeartbeats 4000000 in
theorem b_X5_overall_s8 (X : CX p s m args c cX5_overall 7 RX5 D aC ad sg A H0) (v1 : Int) (hv1 : inR v1) (v2 : Int) (hv2 : inR v2) {M : Mem} {o : (Int × Int × Int) ⊕ (Int × Int × Int)} (HC : ∀ (y3 : Int) (y4 : Int) (y5 : Int) (H : Heap) (locs : List Loc) (ls : Array Slot), o = .inl (y3, y4, y5) → inR y3 → inR y4 → inR y5 → lv_has ls 7 [(0, .ref (ad 17)), (1, .int (i2 v1)), (2, .int (i2 v2)), (3, .int (i2 y3)), (4, .int (i2 y4)), (5, .int (i2 y5))] → WS D aC ad A H0 M H locs → W p l e rm_X5_overall s m args below meth c H locs 0 0 Q (F0 m 8 ls [])) (HE : ∀ (y3 : Int) (y4 : Int) (y5 : Int) (H : Heap) (locs : List Loc) (ls : Array Slot), o = .inr (y3, y4, y5) → inR y3 → inR y4 → inR y5 → lv_has ls 7 [(0, .ref (ad 17)), (1, .int (i2 v1)), (2, .int (i2 v2)), (3, .int (i2 y3)), (4, .int (i2 y4)), (5, .int (i2 y5))] → WS D aC ad A H0 M H locs → W p l e rm_X5_overall s m args below meth c H locs 0 0 Q (F0 m 44 ls [])) (v3 : Int) (hv3 : inR v3) (v4 : Int) (hv4 : inR v4) (v5 : Int) (hv5 : inR v5) (hf : f_X5_overall_s8 v1 v2 M v3 v4 v5 = some o) {H : Heap} {locs : List Loc} {ls : Array Slot} (hl : lv_has ls 7 [(0, .ref (ad 17)), (1, .int (i2 v1)), (2, .int (i2 v2)), (3, .int (i2 v3)), (4, .int (i2 v4)), (5, .int (i2 v5))]) (w : WS D aC ad A H0 M H locs) : W p l e rm_X5_overall s m args below meth c H locs 0 0 Q (F0 m 8 ls []) := by
  have hx := X.1.1
  have hb := X.1.2.1
  unfold f_X5_overall_s8 at hf
  refine lv_iload hx hb dX5_overall_8 (lv_at hl 5 rfl) ?_
  refine g_iconst X dX5_overall_10 ?_
  refine g_icmp_ge (tgt := 44) X hv5 (inL rfl) dX5_overall_11 (by decide) (fun cd => ?_) (fun cd => ?_)
  · replace hf := ite_t cd hf
    exact HE v3 v4 v5 _ _ _ (Option.some.inj hf).symm hv3 hv4 hv5 hl w
  · replace hf := ite_f cd hf
    refine lv_aload_n hx hb dX5_overall_14 rfl (lv_at hl 0 rfl) ?_
    refine lv_iload hx hb dX5_overall_15 (lv_at hl 5 rfl) ?_
    refine lv_iload_n hx hb dX5_overall_17 rfl (lv_at hl 1 rfl) ?_
    refine lv_iload_n hx hb dX5_overall_18 rfl (lv_at hl 2 rfl) ?_
    obtain ⟨r, hc, hf⟩ := obn_some hf
    refine g_cvi (As := [.int (i2 v5), .int (i2 v1), .int (i2 v2)]) (rest := []) X w (k_X5_scale X.2.2.1 v5 hv5 v1 hv1 v2 hv2 w.2.2 hc) lk_X5_40 cl_5 KD_17 ⟨rfl, rfl⟩ ⟨nle rfl, nle rfl⟩ ⟨nle rfl, nle rfl⟩ hl.1 rfl (nle rfl) dX5_overall_19 (fun hr H locs w => ?_)
    refine g_ist (v := r) (lv' := [(6, .int (i2 r)), (0, .ref (ad 17)), (1, .int (i2 v1)), (2, .int (i2 v2)), (3, .int (i2 v3)), (4, .int (i2 v4)), (5, .int (i2 v5))]) X rfl dX5_overall_22 hl (by decide) rfl (fun ls hl => ?_)
    refine lv_iload hx hb dX5_overall_24 (lv_at hl 0 rfl) ?_
    refine g_iconst X dX5_overall_26 ?_
    refine g_icmp_eq (tgt := 38) X hr (inL rfl) dX5_overall_27 (by decide) (fun cd_2 => ?_) (fun cd_2 => ?_)
    · replace hf := ite_t cd_2 hf
      obtain ⟨v5_2, ev5_2, hf⟩ := lt_some hf
      have hv5_2 : inR v5_2 := inR_of ev5_2 (inR_wrap _)
      refine lv_iinc (v := i2 v5_2) (lv' := [(5, .int (i2 v5_2)), (6, .int (i2 r)), (0, .ref (ad 17)), (1, .int (i2 v1)), (2, .int (i2 v2)), (3, .int (i2 v3)), (4, .int (i2 v4))]) hx hb dX5_overall_38 hl (k := 6) rfl (by rw [ev5_2]; exact i2_add _ _) (by decide) rfl (fun ls hl => ?_)
      refine lv_goto (tgt := 8) hx hb dX5_overall_41 (by decide) ?_
      exact HC v3 v4 v5_2 _ _ _ (Option.some.inj hf).symm hv3 hv4 hv5_2 (lv_sub hl [2, 3, 4, 5, 6, 0] rfl) w
    · replace hf := ite_f cd_2 hf
      refine lv_iload_n hx hb dX5_overall_30 rfl (lv_at hl 4 rfl) ?_
      refine lv_iload hx hb dX5_overall_31 (lv_at hl 0 rfl) ?_
      refine g_iadd X dX5_overall_33 ?_
      obtain ⟨v3_2, ev3_2, hf⟩ := lt_some hf
      have hv3_2 : inR v3_2 := inR_of ev3_2 (inR_wrap _)
      refine g_istn (v := v3_2) (lv' := [(3, .int (i2 v3_2)), (6, .int (i2 r)), (0, .ref (ad 17)), (1, .int (i2 v1)), (2, .int (i2 v2)), (4, .int (i2 v4)), (5, .int (i2 v5))]) X ev3_2 dX5_overall_34 rfl hl (by decide) rfl (fun ls hl => ?_)
      obtain ⟨v4_2, ev4_2, hf⟩ := lt_some hf
      have hv4_2 : inR v4_2 := inR_of ev4_2 (inR_wrap _)
      refine lv_iinc (v := i2 v4_2) (lv' := [(4, .int (i2 v4_2)), (3, .int (i2 v3_2)), (6, .int (i2 r)), (0, .ref (ad 17)), (1, .int (i2 v1)), (2, .int (i2 v2)), (5, .int (i2 v5))]) hx hb dX5_overall_35 hl (k := 5) rfl (by rw [ev4_2]; exact i2_add _ _) (by decide) rfl (fun ls hl => ?_)
      obtain ⟨v5_3, ev5_3, hf⟩ := lt_some hf
      have hv5_3 : inR v5_3 := inR_of ev5_3 (inR_wrap _)
      refine lv_iinc (v := i2 v5_3) (lv' := [(5, .int (i2 v5_3)), (4, .int (i2 v4_2)), (3, .int (i2 v3_2)), (6, .int (i2 r)), (0, .ref (ad 17)), (1, .int (i2 v1)), (2, .int (i2 v2))]) hx hb dX5_overall_38 hl (k := 6) rfl (by rw [ev5_3]; exact i2_add _ _) (by decide) rfl (fun ls hl => ?_)
      refine lv_goto (tgt := 8) hx hb dX5_overall_41 (by decide) ?_
      exact HC v3_2 v4_2 v5_3 _ _ _ (Option.some.inj hf).symm hv3_2 hv4_2 hv5_3 (lv_sub hl [4, 5, 6, 2, 1, 0] rfl) w
set_option maxRecDepth 100000 in
set_option maxHeartbeats 4000000 in
theorem l_X5_overall_8 (X : CX p s m args c cX5_overall 7 RX5 D aC ad sg A H0) (v1 : Int) (hv1 : inR v1) (v2 : Int) (hv2 : inR v2) {M : Mem} {out : Int × Int × Int} (HE : ∀ (y3 : Int) (y4 : Int) (y5 : Int) (H : Heap) (locs : List Loc) (ls : Array Slot), out = (y3, y4, y5) → inR y3 → inR y4 → inR y5 → lv_has ls 7 [(0, .ref (ad 17)), (1, .int (i2 v1)), (2, .int (i2 v2)), (3, .int (i2 y3)), (4, .int (i2 y4)), (5, .int (i2 y5))] → WS D aC ad A H0 M H locs → W p l e rm_X5_overall s m args below meth c H locs 0 0 Q (F0 m 44 ls [])) : ∀ (n : Nat) (v3 : Int) (v4 : Int) (v5 : Int), whl (fun s => f_X5_overall_s8 v1 v2 M s.1 s.2.1 s.2.2) n (v3, v4, v5) = some out → inR v3 → inR v4 → inR v5 → ∀ {H : Heap} {locs : List Loc} {ls : Array Slot}, lv_has ls 7 [(0, .ref (ad 17)), (1, .int (i2 v1)), (2, .int (i2 v2)), (3, .int (i2 v3)), (4, .int (i2 v4)), (5, .int (i2 v5))] → WS D aC ad A H0 M H locs → W p l e rm_X5_overall s m args below meth c H locs 0 0 Q (F0 m 8 ls []) := by
  intro n
  induction n with
  | zero => intro v3 v4 v5 hf; exact (whl_zero hf).elim
  | succ n ih =>
    intro v3 v4 v5 hf hv3 hv4 hv5 H locs ls hl w
    obtain ⟨o, hf, hk1, hk2⟩ := whl_step hf
    exact b_X5_overall_s8 X v1 hv1 v2 hv2 (fun y3 y4 y5 H locs ls eo hy3 hy4 hy5 hl w => ih y3 y4 y5 (hk1 _ eo) hy3 hy4 hy5 hl w) (fun y3 y4 y5 H locs ls eo hy3 hy4 hy5 hl w => HE y3 y4 y5 H locs ls (hk2 _ eo).symm hy3 hy4 hy5 hl w) v3 hv3 v4 hv4 v5 hv5 hf hl w
set_option maxRecDepth 100000 in
set_option maxHeartbeats 4000000 in
theorem b_X5_overall_j44 (X : CX p s m args c cX5_overall 7 RX5 D aC ad sg A H0) {M : Mem} {o : Int} (HR : ∀ (r : Int) (H : Heap) (locs : List Loc) (pc : Nat) (ls : Array Slot), o = r → inR r → WS D aC ad A H0 M H locs → decode cX5_overall pc = .ok (.ireturn, 1) → W p l e rm_X5_overall s m args below meth c H locs 0 0 Q (F0 m pc ls [.int (i2 r)])) (v3 : Int) (hv3 : inR v3) (v4 : Int) (hv4 : inR v4) (hf : f_X5_overall_j44 v3 v4 M = some o) {H : Heap} {locs : List Loc} {ls : Array Slot} (hl : lv_has ls 7 [(3, .int (i2 v3)), (4, .int (i2 v4))]) (w : WS D aC ad A H0 M H locs) : W p l e rm_X5_overall s m args below meth c H locs 0 0 Q (F0 m 44 ls []) := by
  have hx := X.1.1
  have hb := X.1.2.1
  unfold f_X5_overall_j44 at hf
  refine lv_iload hx hb dX5_overall_44 (lv_at hl 1 rfl) ?_
  refine g_if_ne (tgt := 53) X hv4 dX5_overall_46 (by decide) (fun cd => ?_) (fun cd => ?_)
  · replace hf := ite_f cd hf
    refine lv_iload_n hx hb dX5_overall_53 rfl (lv_at hl 0 rfl) ?_
    refine lv_iload hx hb dX5_overall_54 (lv_at hl 1 rfl) ?_
    obtain ⟨hg, hf⟩ := gd_some hf
    refine g_idiv X hv4 hg dX5_overall_56 ?_
    exact HR (jdiv v3 v4) _ _ _ _ (Option.some.inj hf).symm (inR_toInt _) w dX5_overall_57
  · replace hf := ite_t cd hf
    refine g_iconst X dX5_overall_49 ?_
    refine lv_goto (tgt := 57) hx hb dX5_overall_50 (by decide) ?_
    exact HR (-1) _ _ _ _ (Option.some.inj hf).symm (inL rfl) w dX5_overall_57
set_option maxRecDepth 100000 in
set_option maxHeartbeats 4000000 in
theorem b_X5_overall_0 (X : CX p s m args c cX5_overall 7 RX5 D aC ad sg A H0) {M : Mem} {o : Int} (HR : ∀ (r : Int) (H : Heap) (locs : List Loc) (pc : Nat) (ls : Array Slot), o = r → inR r → WS D aC ad A H0 M H locs → decode cX5_overall pc = .ok (.ireturn, 1) → W p l e rm_X5_overall s m args below meth c H locs 0 0 Q (F0 m pc ls [.int (i2 r)])) (p1 : Int) (hp1 : inR p1) (p2 : Int) (hp2 : inR p2) (hf : f_X5_overall p1 p2 M = some o) {H : Heap} {locs : List Loc} {ls : Array Slot} (hl : lv_has ls 7 [(0, .ref (ad 17)), (1, .int (i2 p1)), (2, .int (i2 p2))]) (w : WS D aC ad A H0 M H locs) : W p l e rm_X5_overall s m args below meth c H locs 0 0 Q (F0 m 0 ls []) := by
  have hx := X.1.1
  have hb := X.1.2.1
  unfold f_X5_overall at hf
  refine g_iconst X dX5_overall_0 ?_
  refine g_istn (v := 0) (lv' := [(3, .int (i2 0)), (0, .ref (ad 17)), (1, .int (i2 p1)), (2, .int (i2 p2))]) X rfl dX5_overall_1 rfl hl (by decide) rfl (fun ls hl => ?_)
  refine g_iconst X dX5_overall_2 ?_
  refine g_ist (v := 0) (lv' := [(4, .int (i2 0)), (3, .int (i2 0)), (0, .ref (ad 17)), (1, .int (i2 p1)), (2, .int (i2 p2))]) X rfl dX5_overall_3 hl (by decide) rfl (fun ls hl => ?_)
  refine g_iconst X dX5_overall_5 ?_
  refine g_ist (v := 0) (lv' := [(5, .int (i2 0)), (4, .int (i2 0)), (3, .int (i2 0)), (0, .ref (ad 17)), (1, .int (i2 p1)), (2, .int (i2 p2))]) X rfl dX5_overall_6 hl (by decide) rfl (fun ls hl => ?_)
  obtain ⟨q, hq, h1⟩ := obn_some hf
  exact l_X5_overall_8 X p1 hp1 p2 hp2 (out := q) (fun y3 y4 y5 H locs ls eq hy3 hy4 hy5 hl w => b_X5_overall_j44 X  HR y3 hy3 y4 hy4 (by subst eq; exact h1) (lv_sub hl [3, 4] rfl) w)  FU 0 0 0 hq (inL rfl) (inL rfl) (inL rfl) (lv_sub hl [3, 4, 5, 2, 1, 0] rfl) w
set_option maxRecDepth 100000 in
set_option maxHeartbeats 4000000 in
theorem k_X5_overall {l : Launch} {D : va_G} {aC : Nat → ClassId} {ad : Nat → Nat} {sg : SG} (hi : Inj ad) (p1 : Int) (hp1 : inR p1) (p2 : Int) (hp2 : inR p2) {M : Mem} (hM : inM M) {r : Int} (hf : f_X5_overall p1 p2 M = some r) : MetI l D aC ad sg yX5_overall cX5_overall 7 (some .int) rm_X5_overall 0 0 [.ref (ad 17), .int (i2 p1), .int (i2 p2)] M r M := by
  refine MetI.ofI (by decide +kernel) (nle rfl) hi hM (fun p e s m args below meth c Q H0 ls X hl w hret => ?_)
  exact b_X5_overall_0 X  (fun r1 H locs pc ls eo hP w dg => by cases eo; exact hret H locs pc ls hP w dg) p1 hp1 p2 hp2 hf hl w
set_option maxRecDepth 100000 in
set_option maxHeartbeats 4000000 in
theorem b_X5_level_0 (X : CX p s m args c cX5_level 4 RX5 D aC ad sg A H0) {M : Mem} {o : Int} (HR : ∀ (r : Int) (H : Heap) (locs : List Loc) (pc : Nat) (ls : Array Slot), o = r → inR r → WS D aC ad A H0 M H locs → decode cX5_level pc = .ok (.ireturn, 1) → W p l e rm_X5_level s m args below meth c H locs 0 0 Q (F0 m pc ls [.int (i2 r)])) (p1 : Int) (hp1 : inR p1) (p2 : Int) (hp2 : inR p2) (hf : f_X5_level p1 p2 M = some o) {H : Heap} {locs : List Loc} {ls : Array Slot} (hl : lv_has ls 4 [(0, .ref (ad 17)), (1, .int (i2 p1)), (2, .int (i2 p2))]) (w : WS D aC ad A H0 M H locs) : W p l e rm_X5_level s m args below meth c H locs 0 0 Q (F0 m 0 ls []) := by
  have hx := X.1.1
  have hb := X.1.2.1
  unfold f_X5_level at hf
  refine lv_aload_n hx hb dX5_level_0 rfl (lv_at hl 0 rfl) ?_
  refine lv_iload_n hx hb dX5_level_1 rfl (lv_at hl 1 rfl) ?_
  refine lv_iload_n hx hb dX5_level_2 rfl (lv_at hl 2 rfl) ?_
  obtain ⟨r, hc, hf⟩ := obn_some hf
  refine g_cvi (As := [.int (i2 p1), .int (i2 p2)]) (rest := []) X w (k_X5_overall X.2.2.1 p1 hp1 p2 hp2 w.2.2 hc) lk_X5_44 cl_5 KD_17 ⟨rfl, rfl⟩ ⟨nle rfl, nle rfl⟩ ⟨nle rfl, nle rfl⟩ hl.1 rfl (nle rfl) dX5_level_3 (fun hr H locs w => ?_)
  refine g_istn (v := r) (lv' := [(3, .int (i2 r)), (0, .ref (ad 17)), (1, .int (i2 p1)), (2, .int (i2 p2))]) X rfl dX5_level_6 rfl hl (by decide) rfl (fun ls hl => ?_)
  refine lv_iload_n hx hb dX5_level_7 rfl (lv_at hl 0 rfl) ?_
  refine g_iconst X dX5_level_8 ?_
  refine g_icmp_ne (tgt := 16) X hr (inL rfl) dX5_level_9 (by decide) (fun cd => ?_) (fun cd => ?_)
  · replace hf := ite_f cd hf
    refine lv_iload_n hx hb dX5_level_16 rfl (lv_at hl 0 rfl) ?_
    exact HR r _ _ _ _ (Option.some.inj hf).symm hr w dX5_level_17
  · replace hf := ite_t cd hf
    refine g_iconst X dX5_level_12 ?_
    refine lv_goto (tgt := 17) hx hb dX5_level_13 (by decide) ?_
    exact HR 5 _ _ _ _ (Option.some.inj hf).symm (inL rfl) w dX5_level_17
set_option maxRecDepth 100000 in
set_option maxHeartbeats 4000000 in
theorem k_X5_level {l : Launch} {D : va_G} {aC : Nat → ClassId} {ad : Nat → Nat} {sg : SG} (hi : Inj ad) (p1 : Int) (hp1 : inR p1) (p2 : Int) (hp2 : inR p2) {M : Mem} (hM : inM M) {r : Int} (hf : f_X5_level p1 p2 M = some r) : MetI l D aC ad sg yX5_level cX5_level 4 (some .int) rm_X5_level 0 0 [.ref (ad 17), .int (i2 p1), .int (i2 p2)] M r M := by
  refine MetI.ofI (by decide +kernel) (nle rfl) hi hM (fun p e s m args below meth c Q H0 ls X hl w hret => ?_)
  exact b_X5_level_0 X  (fun r1 H locs pc ls eo hP w dg => by cases eo; exact hret H locs pc ls hP w dg) p1 hp1 p2 hp2 hf hl w
set_option maxRecDepth 100000 in
set_option maxHeartbeats 4000000 in
theorem b_X5_add_0 (X : CX p s m args c cX5_add 6 RX5 D aC ad sg A H0) {o : Int × Mem} (HR : ∀ (r : Int) (M1 : Mem) (H : Heap) (locs : List Loc) (pc : Nat) (ls : Array Slot), o = (r, M1) → isZ r → WS D aC ad A H0 M1 H locs → decode cX5_add pc = .ok (.ireturn, 1) → W p l e rm_X5_add s m args below meth c H locs 0 0 Q (F0 m pc ls [.int (i2 r)])) (p1 : Int) (hp1 : inR p1) (p2 : Int) (hp2 : inR p2) (p3 : Int) (hp3 : inR p3) (p4 : Int) (hp4 : inR p4) (p5 : Int) (hp5 : inR p5) (M : Mem) (hf : f_X5_add p1 p2 p3 p4 p5 M = some o) {H : Heap} {locs : List Loc} {ls : Array Slot} (hl : lv_has ls 6 [(0, .ref (ad 17)), (1, .int (i2 p1)), (2, .int (i2 p2)), (3, .int (i2 p3)), (4, .int (i2 p4)), (5, .int (i2 p5))]) (w : WS D aC ad A H0 M H locs) : W p l e rm_X5_add s m args below meth c H locs 0 0 Q (F0 m 0 ls []) := by
  have hx := X.1.1
  have hb := X.1.2.1
  unfold f_X5_add at hf
  refine lv_aload_n hx hb dX5_add_0 rfl (lv_at hl 0 rfl) ?_
  refine g_geti X w fg_X5_30 KD_17 FR_17_0 dX5_add_1 ?_
  refine g_sipush X dX5_add_4 (by decide) ?_
  refine g_icmp_lt (tgt := 12) X (w.2.2 _ _) (inL rfl) dX5_add_7 (by decide) (fun cd => ?_) (fun cd => ?_)
  · replace hf := ite_t cd hf
    refine lv_aload_n hx hb dX5_add_12 rfl (lv_at hl 0 rfl) ?_
    refine g_getr X w fg_X5_11 KD_17 FR_17_1 dX5_add_13 ?_
    refine lv_aload_n hx hb dX5_add_16 rfl (lv_at hl 0 rfl) ?_
    refine g_geti X w fg_X5_30 KD_17 FR_17_0 dX5_add_17 ?_
    refine lv_iload_n hx hb dX5_add_20 rfl (lv_at hl 1 rfl) ?_
    obtain ⟨hg, hf⟩ := gd_some hf
    obtain ⟨M_2, eM_2, hf⟩ := lt_some hf
    refine g_iast X w KD_18 (w.2.2 _ _) hg hp1 dX5_add_21 (fun H locs w_M_2 => ?_)
    rw [← eM_2] at w_M_2
    refine lv_aload_n hx hb dX5_add_22 rfl (lv_at hl 0 rfl) ?_
    refine g_getr X w_M_2 fg_X5_15 KD_17 FR_17_2 dX5_add_23 ?_
    refine lv_aload_n hx hb dX5_add_26 rfl (lv_at hl 0 rfl) ?_
    refine g_geti X w_M_2 fg_X5_30 KD_17 FR_17_0 dX5_add_27 ?_
    refine lv_iload_n hx hb dX5_add_30 rfl (lv_at hl 2 rfl) ?_
    obtain ⟨hg_2, hf⟩ := gd_some hf
    obtain ⟨M_3, eM_3, hf⟩ := lt_some hf
    refine g_iast X w_M_2 KD_19 (w_M_2.2.2 _ _) hg_2 hp2 dX5_add_31 (fun H locs w_M_3 => ?_)
    rw [← eM_3] at w_M_3
    refine lv_aload_n hx hb dX5_add_32 rfl (lv_at hl 0 rfl) ?_
    refine g_getr X w_M_3 fg_X5_18 KD_17 FR_17_3 dX5_add_33 ?_
    refine lv_aload_n hx hb dX5_add_36 rfl (lv_at hl 0 rfl) ?_
    refine g_geti X w_M_3 fg_X5_30 KD_17 FR_17_0 dX5_add_37 ?_
    refine lv_iload_n hx hb dX5_add_40 rfl (lv_at hl 3 rfl) ?_
    obtain ⟨hg_3, hf⟩ := gd_some hf
    obtain ⟨M_4, eM_4, hf⟩ := lt_some hf
    refine g_iast X w_M_3 KD_20 (w_M_3.2.2 _ _) hg_3 hp3 dX5_add_41 (fun H locs w_M_4 => ?_)
    rw [← eM_4] at w_M_4
    refine lv_aload_n hx hb dX5_add_42 rfl (lv_at hl 0 rfl) ?_
    refine g_getr X w_M_4 fg_X5_21 KD_17 FR_17_4 dX5_add_43 ?_
    refine lv_aload_n hx hb dX5_add_46 rfl (lv_at hl 0 rfl) ?_
    refine g_geti X w_M_4 fg_X5_30 KD_17 FR_17_0 dX5_add_47 ?_
    refine lv_iload hx hb dX5_add_50 (lv_at hl 4 rfl) ?_
    obtain ⟨hg_4, hf⟩ := gd_some hf
    obtain ⟨M_5, eM_5, hf⟩ := lt_some hf
    refine g_iast X w_M_4 KD_21 (w_M_4.2.2 _ _) hg_4 hp4 dX5_add_52 (fun H locs w_M_5 => ?_)
    rw [← eM_5] at w_M_5
    refine lv_aload_n hx hb dX5_add_53 rfl (lv_at hl 0 rfl) ?_
    refine g_getr X w_M_5 fg_X5_24 KD_17 FR_17_5 dX5_add_54 ?_
    refine lv_aload_n hx hb dX5_add_57 rfl (lv_at hl 0 rfl) ?_
    refine g_geti X w_M_5 fg_X5_30 KD_17 FR_17_0 dX5_add_58 ?_
    refine lv_iload hx hb dX5_add_61 (lv_at hl 5 rfl) ?_
    obtain ⟨hg_5, hf⟩ := gd_some hf
    obtain ⟨M_6, eM_6, hf⟩ := lt_some hf
    refine g_iast X w_M_5 KD_22 (w_M_5.2.2 _ _) hg_5 hp5 dX5_add_63 (fun H locs w_M_6 => ?_)
    rw [← eM_6] at w_M_6
    refine lv_aload_n hx hb dX5_add_64 rfl (lv_at hl 0 rfl) ?_
    refine lv_dup hx hb dX5_add_65 rfl ?_
    refine g_geti X w_M_6 fg_X5_30 KD_17 FR_17_0 dX5_add_66 ?_
    refine g_iconst X dX5_add_69 ?_
    refine g_iadd X dX5_add_70 ?_
    obtain ⟨M_7, eM_7, hf⟩ := lt_some hf
    refine g_puti X w_M_6 fp_X5_30 KD_17 FR_17_0 (inR_wrap _) dX5_add_71 (fun H locs w_M_7 => ?_)
    rw [← eM_7] at w_M_7
    refine g_iconst X dX5_add_74 ?_
    exact HR 1 M_7 _ _ _ _ (Option.some.inj hf).symm (Or.inr rfl) w_M_7 dX5_add_75
  · replace hf := ite_f cd hf
    refine g_iconst X dX5_add_10 ?_
    exact HR 0 M _ _ _ _ (Option.some.inj hf).symm (Or.inl rfl) w dX5_add_11
set_option maxRecDepth 100000 in
set_option maxHeartbeats 4000000 in
theorem k_X5_add {l : Launch} {D : va_G} {aC : Nat → ClassId} {ad : Nat → Nat} {sg : SG} (hi : Inj ad) (p1 : Int) (hp1 : inR p1) (p2 : Int) (hp2 : inR p2) (p3 : Int) (hp3 : inR p3) (p4 : Int) (hp4 : inR p4) (p5 : Int) (hp5 : inR p5) {M : Mem} (hM : inM M) {r : Int} {M' : Mem} (hf : f_X5_add p1 p2 p3 p4 p5 M = some (r, M')) : MetI l D aC ad sg yX5_add cX5_add 6 (some .boolean) rm_X5_add 0 0 [.ref (ad 17), .int (i2 p1), .int (i2 p2), .int (i2 p3), .int (i2 p4), .int (i2 p5)] M r M' := by
  refine MetI.ofZ (by decide +kernel) (nle rfl) hi hM (fun p e s m args below meth c Q H0 ls X hl w hret => ?_)
  exact b_X5_add_0 X  (fun r1 M1 H locs pc ls eo hP w dg => by cases eo; exact hret H locs pc ls hP w dg) p1 hp1 p2 hp2 p3 hp3 p4 hp4 p5 hp5 M hf hl w
end
section
variable {p : Program} {l : Launch} {e : Env} {s : State} {m : MethodId} {args : Array Value} {below : List Frame} {meth : Method} {c : Code} {Q : State → Prop} {D : va_G} {aC : Nat → ClassId} {ad : Nat → Nat} {sg : SG} {A : Nat → Prop} {H0 : Heap}
set_option maxRecDepth 100000 in
set_option maxHeartbeats 4000000 in
theorem b_X7_twinsHow_s5 (X : CX p s m args c cX7_twinsHow 3 RX7 D aC ad sg A H0) (r0 : Int) (hr0 : isRu r0) {M : Mem} {o : (Int × Int) ⊕ (Int × Int)} (HC : ∀ (y1 : Int) (y2 : Int) (H : Heap) (locs : List Loc) (ls : Array Slot), o = .inl (y1, y2) → inR y1 → inR y2 → lv_has ls 3 [(0, .ref (ad r0.toNat)), (1, .int (i2 y1)), (2, .int (i2 y2))] → WS D aC ad A H0 M H locs → W p l e rm_X7_twinsHow s m args below meth c H locs 0 0 Q (F0 m 5 ls [])) (HE : ∀ (y1 : Int) (y2 : Int) (H : Heap) (locs : List Loc) (ls : Array Slot), o = .inr (y1, y2) → inR y1 → inR y2 → lv_has ls 3 [(0, .ref (ad r0.toNat)), (1, .int (i2 y1)), (2, .int (i2 y2))] → WS D aC ad A H0 M H locs → W p l e rm_X7_twinsHow s m args below meth c H locs 0 0 Q (F0 m 37 ls [])) (v1 : Int) (hv1 : inR v1) (v2 : Int) (hv2 : inR v2) (hf : f_X7_twinsHow_s5 r0 M v1 v2 = some o) {H : Heap} {locs : List Loc} {ls : Array Slot} (hl : lv_has ls 3 [(0, .ref (ad r0.toNat)), (1, .int (i2 v1)), (2, .int (i2 v2))]) (w : WS D aC ad A H0 M H locs) : W p l e rm_X7_twinsHow s m args below meth c H locs 0 0 Q (F0 m 5 ls []) := by
  have hx := X.1.1
  have hb := X.1.2.1
  unfold f_X7_twinsHow_s5 at hf
  refine lv_iload_n hx hb dX7_twinsHow_5 rfl (lv_at hl 2 rfl) ?_
  refine lv_aload_n hx hb dX7_twinsHow_6 rfl (lv_at hl 0 rfl) ?_
  refine g_geti X w fg_X7_37 (KD_ru hr0) (FR_ru_0 hr0) dX7_twinsHow_7 ?_
  refine g_icmp_ge (tgt := 37) X hv2 (w.2.2 _ _) dX7_twinsHow_10 (by decide) (fun cd => ?_) (fun cd => ?_)
  · replace hf := ite_t cd hf
    exact HE v1 v2 _ _ _ (Option.some.inj hf).symm hv1 hv2 hl w
  · replace hf := ite_f cd hf
    refine lv_aload_n hx hb dX7_twinsHow_13 rfl (lv_at hl 0 rfl) ?_
    refine g_getr X w fg_X7_11 (KD_ru hr0) (FR_ru_1 hr0) dX7_twinsHow_14 ?_
    refine lv_iload_n hx hb dX7_twinsHow_17 rfl (lv_at hl 2 rfl) ?_
    obtain ⟨hg, hf⟩ := gd_some hf
    refine g_iald X w (KD_ru_1 hr0) hv2 hg dX7_twinsHow_18 ?_
    refine g_bipush X dX7_twinsHow_19 (by decide) ?_
    refine g_icmp_ne (tgt := 31) X (w.2.2 _ _) (inL rfl) dX7_twinsHow_21 (by decide) (fun cd_2 => ?_) (fun cd_2 => ?_)
    · replace hf := ite_f cd_2 hf
      obtain ⟨v2_2, ev2_2, hf⟩ := lt_some hf
      have hv2_2 : inR v2_2 := inR_of ev2_2 (inR_wrap _)
      refine lv_iinc (v := i2 v2_2) (lv' := [(2, .int (i2 v2_2)), (0, .ref (ad r0.toNat)), (1, .int (i2 v1))]) hx hb dX7_twinsHow_31 hl (k := 2) rfl (by rw [ev2_2]; exact i2_add _ _) (by decide) rfl (fun ls hl => ?_)
      refine lv_goto (tgt := 5) hx hb dX7_twinsHow_34 (by decide) ?_
      exact HC v1 v2_2 _ _ _ (Option.some.inj hf).symm hv1 hv2_2 (lv_sub hl [1, 2, 0] rfl) w
    · replace hf := ite_t cd_2 hf
      refine lv_aload_n hx hb dX7_twinsHow_24 rfl (lv_at hl 0 rfl) ?_
      refine g_getr X w fg_X7_18 (KD_ru hr0) (FR_ru_3 hr0) dX7_twinsHow_25 ?_
      refine lv_iload_n hx hb dX7_twinsHow_28 rfl (lv_at hl 2 rfl) ?_
      obtain ⟨hg_2, hf⟩ := gd_some hf
      refine g_iald X w (KD_ru_3 hr0) hv2 hg_2 dX7_twinsHow_29 ?_
      obtain ⟨v1_2, ev1_2, hf⟩ := lt_some hf
      have hv1_2 : inR v1_2 := inR_of ev1_2 (w.2.2 _ _)
      refine g_istn (v := v1_2) (lv' := [(1, .int (i2 v1_2)), (0, .ref (ad r0.toNat)), (2, .int (i2 v2))]) X ev1_2 dX7_twinsHow_30 rfl hl (by decide) rfl (fun ls hl => ?_)
      obtain ⟨v2_3, ev2_3, hf⟩ := lt_some hf
      have hv2_3 : inR v2_3 := inR_of ev2_3 (inR_wrap _)
      refine lv_iinc (v := i2 v2_3) (lv' := [(2, .int (i2 v2_3)), (1, .int (i2 v1_2)), (0, .ref (ad r0.toNat))]) hx hb dX7_twinsHow_31 hl (k := 2) rfl (by rw [ev2_3]; exact i2_add _ _) (by decide) rfl (fun ls hl => ?_)
      refine lv_goto (tgt := 5) hx hb dX7_twinsHow_34 (by decide) ?_
      exact HC v1_2 v2_3 _ _ _ (Option.some.inj hf).symm hv1_2 hv2_3 (lv_sub hl [2, 1, 0] rfl) w
set_option maxRecDepth 100000 in
set_option maxHeartbeats 4000000 in
theorem l_X7_twinsHow_5 (X : CX p s m args c cX7_twinsHow 3 RX7 D aC ad sg A H0) (r0 : Int) (hr0 : isRu r0) {M : Mem} {out : Int × Int} (HE : ∀ (y1 : Int) (y2 : Int) (H : Heap) (locs : List Loc) (ls : Array Slot), out = (y1, y2) → inR y1 → inR y2 → lv_has ls 3 [(0, .ref (ad r0.toNat)), (1, .int (i2 y1)), (2, .int (i2 y2))] → WS D aC ad A H0 M H locs → W p l e rm_X7_twinsHow s m args below meth c H locs 0 0 Q (F0 m 37 ls [])) : ∀ (n : Nat) (v1 : Int) (v2 : Int), whl (fun s => f_X7_twinsHow_s5 r0 M s.1 s.2) n (v1, v2) = some out → inR v1 → inR v2 → ∀ {H : Heap} {locs : List Loc} {ls : Array Slot}, lv_has ls 3 [(0, .ref (ad r0.toNat)), (1, .int (i2 v1)), (2, .int (i2 v2))] → WS D aC ad A H0 M H locs → W p l e rm_X7_twinsHow s m args below meth c H locs 0 0 Q (F0 m 5 ls []) := by
  intro n
  induction n with
  | zero => intro v1 v2 hf; exact (whl_zero hf).elim
  | succ n ih =>
    intro v1 v2 hf hv1 hv2 H locs ls hl w
    obtain ⟨o, hf, hk1, hk2⟩ := whl_step hf
    exact b_X7_twinsHow_s5 X r0 hr0 (fun y1 y2 H locs ls eo hy1 hy2 hl w => ih y1 y2 (hk1 _ eo) hy1 hy2 hl w) (fun y1 y2 H locs ls eo hy1 hy2 hl w => HE y1 y2 H locs ls (hk2 _ eo).symm hy1 hy2 hl w) v1 hv1 v2 hv2 hf hl w
set_option maxRecDepth 100000 in
set_option maxHeartbeats 4000000 in
theorem b_X7_twinsHow_j37 (X : CX p s m args c cX7_twinsHow 3 RX7 D aC ad sg A H0) (r0 : Int) (hr0 : isRu r0) {M : Mem} {o : Int} (HR : ∀ (r : Int) (H : Heap) (locs : List Loc) (pc : Nat) (ls : Array Slot), o = r → inR r → WS D aC ad A H0 M H locs → decode cX7_twinsHow pc = .ok (.ireturn, 1) → W p l e rm_X7_twinsHow s m args below meth c H locs 0 0 Q (F0 m pc ls [.int (i2 r)])) (v1 : Int) (hv1 : inR v1) (hf : f_X7_twinsHow_j37 r0 v1 M = some o) {H : Heap} {locs : List Loc} {ls : Array Slot} (hl : lv_has ls 3 [(1, .int (i2 v1))]) (w : WS D aC ad A H0 M H locs) : W p l e rm_X7_twinsHow s m args below meth c H locs 0 0 Q (F0 m 37 ls []) := by
  have hx := X.1.1
  have hb := X.1.2.1
  unfold f_X7_twinsHow_j37 at hf
  refine lv_iload_n hx hb dX7_twinsHow_37 rfl (lv_at hl 0 rfl) ?_
  exact HR v1 _ _ _ _ (Option.some.inj hf).symm hv1 w dX7_twinsHow_38
set_option maxRecDepth 100000 in
set_option maxHeartbeats 4000000 in
theorem b_X7_twinsHow_0 (X : CX p s m args c cX7_twinsHow 3 RX7 D aC ad sg A H0) (r0 : Int) (hr0 : isRu r0) {M : Mem} {o : Int} (HR : ∀ (r : Int) (H : Heap) (locs : List Loc) (pc : Nat) (ls : Array Slot), o = r → inR r → WS D aC ad A H0 M H locs → decode cX7_twinsHow pc = .ok (.ireturn, 1) → W p l e rm_X7_twinsHow s m args below meth c H locs 0 0 Q (F0 m pc ls [.int (i2 r)])) (hf : f_X7_twinsHow r0 M = some o) {H : Heap} {locs : List Loc} {ls : Array Slot} (hl : lv_has ls 3 [(0, .ref (ad r0.toNat))]) (w : WS D aC ad A H0 M H locs) : W p l e rm_X7_twinsHow s m args below meth c H locs 0 0 Q (F0 m 0 ls []) := by
  have hx := X.1.1
  have hb := X.1.2.1
  unfold f_X7_twinsHow at hf
  refine g_bipush X dX7_twinsHow_0 (by decide) ?_
  refine g_istn (v := 18) (lv' := [(1, .int (i2 18)), (0, .ref (ad r0.toNat))]) X rfl dX7_twinsHow_2 rfl hl (by decide) rfl (fun ls hl => ?_)
  refine g_iconst X dX7_twinsHow_3 ?_
  refine g_istn (v := 0) (lv' := [(2, .int (i2 0)), (1, .int (i2 18)), (0, .ref (ad r0.toNat))]) X rfl dX7_twinsHow_4 rfl hl (by decide) rfl (fun ls hl => ?_)
  obtain ⟨q, hq, h1⟩ := obn_some hf
  exact l_X7_twinsHow_5 X r0 hr0 (out := q) (fun y1 y2 H locs ls eq hy1 hy2 hl w => b_X7_twinsHow_j37 X r0 hr0 HR y1 hy1 (by subst eq; exact h1) (lv_sub hl [1] rfl) w)  FU 18 0 hq (inL rfl) (inL rfl) (lv_sub hl [2, 1, 0] rfl) w
set_option maxRecDepth 100000 in
set_option maxHeartbeats 4000000 in
theorem k_X7_twinsHow {l : Launch} {D : va_G} {aC : Nat → ClassId} {ad : Nat → Nat} {sg : SG} (hi : Inj ad) (r0 : Int) (hr0 : isRu r0) {M : Mem} (hM : inM M) {r : Int} (hf : f_X7_twinsHow r0 M = some r) : MetI l D aC ad sg yX7_twinsHow cX7_twinsHow 3 (some .int) rm_X7_twinsHow 0 0 [.ref (ad r0.toNat)] M r M := by
  refine MetI.ofI (by decide +kernel) (nle rfl) hi hM (fun p e s m args below meth c Q H0 ls X hl w hret => ?_)
  exact b_X7_twinsHow_0 X r0 hr0 (fun r1 H locs pc ls eo hP w dg => by cases eo; exact hret H locs pc ls hP w dg)  hf hl w
set_option maxRecDepth 100000 in
set_option maxHeartbeats 4000000 in
theorem b_X7_termsUse_s2 (X : CX p s m args c cX7_termsUse 4 RX7 D aC ad sg A H0) (r0 : Int) (hr0 : isRu r0) (v1 : Int) (hv1 : inR v1) (v2 : Int) (hv2 : inR v2) {M : Mem} {o : (Int) ⊕ ((Int) ⊕ (Int))} (HC : ∀ (y3 : Int) (H : Heap) (locs : List Loc) (ls : Array Slot), o = .inl y3 → inR y3 → lv_has ls 4 [(0, .ref (ad r0.toNat)), (1, .int (i2 v1)), (2, .int (i2 v2)), (3, .int (i2 y3))] → WS D aC ad A H0 M H locs → W p l e rm_X7_termsUse s m args below meth c H locs 0 0 Q (F0 m 2 ls [])) (HE : ∀ (y3 : Int) (H : Heap) (locs : List Loc) (ls : Array Slot), o = .inr (.inl y3) → inR y3 → lv_has ls 4 [(0, .ref (ad r0.toNat)), (1, .int (i2 v1)), (2, .int (i2 v2)), (3, .int (i2 y3))] → WS D aC ad A H0 M H locs → W p l e rm_X7_termsUse s m args below meth c H locs 0 0 Q (F0 m 34 ls [])) (HR : ∀ (r : Int) (H : Heap) (locs : List Loc) (pc : Nat) (ls : Array Slot), o = .inr (.inr r) → isZ r → WS D aC ad A H0 M H locs → decode cX7_termsUse pc = .ok (.ireturn, 1) → W p l e rm_X7_termsUse s m args below meth c H locs 0 0 Q (F0 m pc ls [.int (i2 r)])) (v3 : Int) (hv3 : inR v3) (hf : f_X7_termsUse_s2 r0 v1 v2 M v3 = some o) {H : Heap} {locs : List Loc} {ls : Array Slot} (hl : lv_has ls 4 [(0, .ref (ad r0.toNat)), (1, .int (i2 v1)), (2, .int (i2 v2)), (3, .int (i2 v3))]) (w : WS D aC ad A H0 M H locs) : W p l e rm_X7_termsUse s m args below meth c H locs 0 0 Q (F0 m 2 ls []) := by
  have hx := X.1.1
  have hb := X.1.2.1
  unfold f_X7_termsUse_s2 at hf
  refine lv_iload_n hx hb dX7_termsUse_2 rfl (lv_at hl 3 rfl) ?_
  refine lv_aload_n hx hb dX7_termsUse_3 rfl (lv_at hl 0 rfl) ?_
  refine g_getr X w fg_X7_21 (KD_ru hr0) (FR_ru_4 hr0) dX7_termsUse_4 ?_
  refine lv_iload_n hx hb dX7_termsUse_7 rfl (lv_at hl 1 rfl) ?_
  obtain ⟨hg, hf⟩ := gd_some hf
  refine g_iald X w (KD_ru_4 hr0) hv1 hg dX7_termsUse_8 ?_
  refine g_icmp_ge (tgt := 34) X hv3 (w.2.2 _ _) dX7_termsUse_9 (by decide) (fun cd => ?_) (fun cd => ?_)
  · replace hf := ite_t cd hf
    exact HE v3 _ _ _ (Option.some.inj hf).symm hv3 hl w
  · replace hf := ite_f cd hf
    refine lv_aload_n hx hb dX7_termsUse_12 rfl (lv_at hl 0 rfl) ?_
    refine g_getr X w fg_X7_28 (KD_ru hr0) (FR_ru_6 hr0) dX7_termsUse_13 ?_
    refine lv_iload_n hx hb dX7_termsUse_16 rfl (lv_at hl 1 rfl) ?_
    refine g_iconst X dX7_termsUse_17 ?_
    refine g_imul X dX7_termsUse_18 ?_
    refine lv_iload_n hx hb dX7_termsUse_19 rfl (lv_at hl 3 rfl) ?_
    refine g_iadd X dX7_termsUse_20 ?_
    obtain ⟨hg_2, hf⟩ := gd_some hf
    refine g_iald X w (KD_ru_6 hr0) (inR_wrap _) hg_2 dX7_termsUse_21 ?_
    refine lv_iload_n hx hb dX7_termsUse_22 rfl (lv_at hl 2 rfl) ?_
    refine g_icmp_ne (tgt := 28) X (w.2.2 _ _) hv2 dX7_termsUse_23 (by decide) (fun cd_2 => ?_) (fun cd_2 => ?_)
    · replace hf := ite_f cd_2 hf
      obtain ⟨v3_2, ev3_2, hf⟩ := lt_some hf
      have hv3_2 : inR v3_2 := inR_of ev3_2 (inR_wrap _)
      refine lv_iinc (v := i2 v3_2) (lv' := [(3, .int (i2 v3_2)), (0, .ref (ad r0.toNat)), (1, .int (i2 v1)), (2, .int (i2 v2))]) hx hb dX7_termsUse_28 hl (k := 3) rfl (by rw [ev3_2]; exact i2_add _ _) (by decide) rfl (fun ls hl => ?_)
      refine lv_goto (tgt := 2) hx hb dX7_termsUse_31 (by decide) ?_
      exact HC v3_2 _ _ _ (Option.some.inj hf).symm hv3_2 (lv_sub hl [1, 2, 3, 0] rfl) w
    · replace hf := ite_t cd_2 hf
      refine g_iconst X dX7_termsUse_26 ?_
      exact HR 1 _ _ _ _ (Option.some.inj hf).symm (Or.inr rfl) w dX7_termsUse_27
set_option maxRecDepth 100000 in
set_option maxHeartbeats 4000000 in
theorem l_X7_termsUse_2 (X : CX p s m args c cX7_termsUse 4 RX7 D aC ad sg A H0) (r0 : Int) (hr0 : isRu r0) (v1 : Int) (hv1 : inR v1) (v2 : Int) (hv2 : inR v2) {M : Mem} {out : (Int) ⊕ (Int)} (HE : ∀ (y3 : Int) (H : Heap) (locs : List Loc) (ls : Array Slot), out = .inl y3 → inR y3 → lv_has ls 4 [(0, .ref (ad r0.toNat)), (1, .int (i2 v1)), (2, .int (i2 v2)), (3, .int (i2 y3))] → WS D aC ad A H0 M H locs → W p l e rm_X7_termsUse s m args below meth c H locs 0 0 Q (F0 m 34 ls [])) (HR : ∀ (r : Int) (H : Heap) (locs : List Loc) (pc : Nat) (ls : Array Slot), out = .inr r → isZ r → WS D aC ad A H0 M H locs → decode cX7_termsUse pc = .ok (.ireturn, 1) → W p l e rm_X7_termsUse s m args below meth c H locs 0 0 Q (F0 m pc ls [.int (i2 r)])) : ∀ (n : Nat) (v3 : Int), whl (fun s => f_X7_termsUse_s2 r0 v1 v2 M s) n v3 = some out → inR v3 → ∀ {H : Heap} {locs : List Loc} {ls : Array Slot}, lv_has ls 4 [(0, .ref (ad r0.toNat)), (1, .int (i2 v1)), (2, .int (i2 v2)), (3, .int (i2 v3))] → WS D aC ad A H0 M H locs → W p l e rm_X7_termsUse s m args below meth c H locs 0 0 Q (F0 m 2 ls []) := by
  intro n
  induction n with
  | zero => intro v3 hf; exact (whl_zero hf).elim
  | succ n ih =>
    intro v3 hf hv3 H locs ls hl w
    obtain ⟨o, hf, hk1, hk2⟩ := whl_step hf
    exact b_X7_termsUse_s2 X r0 hr0 v1 hv1 v2 hv2 (fun y3 H locs ls eo hy3 hl w => ih y3 (hk1 _ eo) hy3 hl w) (fun y3 H locs ls eo hy3 hl w => HE y3 H locs ls (hk2 _ eo).symm hy3 hl w) (fun r H locs pc ls eo hP w dg => HR r H locs pc ls (hk2 _ eo).symm hP w dg) v3 hv3 hf hl w
set_option maxRecDepth 100000 in
set_option maxHeartbeats 4000000 in
theorem b_X7_termsUse_j34 (X : CX p s m args c cX7_termsUse 4 RX7 D aC ad sg A H0) (r0 : Int) (hr0 : isRu r0) {M : Mem} {o : Int} (HR : ∀ (r : Int) (H : Heap) (locs : List Loc) (pc : Nat) (ls : Array Slot), o = r → isZ r → WS D aC ad A H0 M H locs → decode cX7_termsUse pc = .ok (.ireturn, 1) → W p l e rm_X7_termsUse s m args below meth c H locs 0 0 Q (F0 m pc ls [.int (i2 r)])) (hf : f_X7_termsUse_j34 r0 M = some o) {H : Heap} {locs : List Loc} {ls : Array Slot} (hl : lv_has ls 4 []) (w : WS D aC ad A H0 M H locs) : W p l e rm_X7_termsUse s m args below meth c H locs 0 0 Q (F0 m 34 ls []) := by
  have hx := X.1.1
  have hb := X.1.2.1
  unfold f_X7_termsUse_j34 at hf
  refine g_iconst X dX7_termsUse_34 ?_
  exact HR 0 _ _ _ _ (Option.some.inj hf).symm (Or.inl rfl) w dX7_termsUse_35
set_option maxRecDepth 100000 in
set_option maxHeartbeats 4000000 in
theorem b_X7_termsUse_0 (X : CX p s m args c cX7_termsUse 4 RX7 D aC ad sg A H0) (r0 : Int) (hr0 : isRu r0) {M : Mem} {o : Int} (HR : ∀ (r : Int) (H : Heap) (locs : List Loc) (pc : Nat) (ls : Array Slot), o = r → isZ r → WS D aC ad A H0 M H locs → decode cX7_termsUse pc = .ok (.ireturn, 1) → W p l e rm_X7_termsUse s m args below meth c H locs 0 0 Q (F0 m pc ls [.int (i2 r)])) (p1 : Int) (hp1 : inR p1) (p2 : Int) (hp2 : inR p2) (hf : f_X7_termsUse r0 p1 p2 M = some o) {H : Heap} {locs : List Loc} {ls : Array Slot} (hl : lv_has ls 4 [(0, .ref (ad r0.toNat)), (1, .int (i2 p1)), (2, .int (i2 p2))]) (w : WS D aC ad A H0 M H locs) : W p l e rm_X7_termsUse s m args below meth c H locs 0 0 Q (F0 m 0 ls []) := by
  have hx := X.1.1
  have hb := X.1.2.1
  unfold f_X7_termsUse at hf
  refine g_iconst X dX7_termsUse_0 ?_
  refine g_istn (v := 0) (lv' := [(3, .int (i2 0)), (0, .ref (ad r0.toNat)), (1, .int (i2 p1)), (2, .int (i2 p2))]) X rfl dX7_termsUse_1 rfl hl (by decide) rfl (fun ls hl => ?_)
  obtain ⟨q, hq, h1, h2⟩ := lpr_some hf
  exact l_X7_termsUse_2 X r0 hr0 p1 hp1 p2 hp2 (out := q) (fun y3 H locs ls eq hy3 hl w => b_X7_termsUse_j34 X r0 hr0 HR  (h1 _ eq) (lv_sub hl [] rfl) w) (fun r H locs pc ls eq hP w dg => HR r H locs pc ls (Option.some.inj (h2 _ eq)).symm hP w dg) FU 0 hq (inL rfl) (lv_sub hl [1, 2, 3, 0] rfl) w
set_option maxRecDepth 100000 in
set_option maxHeartbeats 4000000 in
theorem k_X7_termsUse {l : Launch} {D : va_G} {aC : Nat → ClassId} {ad : Nat → Nat} {sg : SG} (hi : Inj ad) (r0 : Int) (hr0 : isRu r0) (p1 : Int) (hp1 : inR p1) (p2 : Int) (hp2 : inR p2) {M : Mem} (hM : inM M) {r : Int} (hf : f_X7_termsUse r0 p1 p2 M = some r) : MetI l D aC ad sg yX7_termsUse cX7_termsUse 4 (some .boolean) rm_X7_termsUse 0 0 [.ref (ad r0.toNat), .int (i2 p1), .int (i2 p2)] M r M := by
  refine MetI.ofZ (by decide +kernel) (nle rfl) hi hM (fun p e s m args below meth c Q H0 ls X hl w hret => ?_)
  exact b_X7_termsUse_0 X r0 hr0 (fun r1 H locs pc ls eo hP w dg => by cases eo; exact hret H locs pc ls hP w dg) p1 hp1 p2 hp2 hf hl w
set_option maxRecDepth 100000 in
set_option maxHeartbeats 4000000 in
theorem b_X7_uses_s2 (X : CX p s m args c cX7_uses 3 RX7 D aC ad sg A H0) (r0 : Int) (hr0 : isRu r0) (v1 : Int) (hv1 : inR v1) {M : Mem} {o : (Int) ⊕ ((Int) ⊕ (Int))} (HC : ∀ (y2 : Int) (H : Heap) (locs : List Loc) (ls : Array Slot), o = .inl y2 → inR y2 → lv_has ls 3 [(0, .ref (ad r0.toNat)), (1, .int (i2 v1)), (2, .int (i2 y2))] → WS D aC ad A H0 M H locs → W p l e rm_X7_uses s m args below meth c H locs 0 0 Q (F0 m 2 ls [])) (HE : ∀ (y2 : Int) (H : Heap) (locs : List Loc) (ls : Array Slot), o = .inr (.inl y2) → inR y2 → lv_has ls 3 [(0, .ref (ad r0.toNat)), (1, .int (i2 v1)), (2, .int (i2 y2))] → WS D aC ad A H0 M H locs → W p l e rm_X7_uses s m args below meth c H locs 0 0 Q (F0 m 63 ls [])) (HR : ∀ (r : Int) (H : Heap) (locs : List Loc) (pc : Nat) (ls : Array Slot), o = .inr (.inr r) → isZ r → WS D aC ad A H0 M H locs → decode cX7_uses pc = .ok (.ireturn, 1) → W p l e rm_X7_uses s m args below meth c H locs 0 0 Q (F0 m pc ls [.int (i2 r)])) (v2 : Int) (hv2 : inR v2) (hf : f_X7_uses_s2 r0 v1 M v2 = some o) {H : Heap} {locs : List Loc} {ls : Array Slot} (hl : lv_has ls 3 [(0, .ref (ad r0.toNat)), (1, .int (i2 v1)), (2, .int (i2 v2))]) (w : WS D aC ad A H0 M H locs) : W p l e rm_X7_uses s m args below meth c H locs 0 0 Q (F0 m 2 ls []) := by
  have hx := X.1.1
  have hb := X.1.2.1
  unfold f_X7_uses_s2 at hf
  refine lv_iload_n hx hb dX7_uses_2 rfl (lv_at hl 2 rfl) ?_
  refine lv_aload_n hx hb dX7_uses_3 rfl (lv_at hl 0 rfl) ?_
  refine g_geti X w fg_X7_37 (KD_ru hr0) (FR_ru_0 hr0) dX7_uses_4 ?_
  refine g_icmp_ge (tgt := 63) X hv2 (w.2.2 _ _) dX7_uses_7 (by decide) (fun cd => ?_) (fun cd => ?_)
  · replace hf := ite_t cd hf
    exact HE v2 _ _ _ (Option.some.inj hf).symm hv2 hl w
  · replace hf := ite_f cd hf
    refine lv_aload_n hx hb dX7_uses_10 rfl (lv_at hl 0 rfl) ?_
    refine g_getr X w fg_X7_11 (KD_ru hr0) (FR_ru_1 hr0) dX7_uses_11 ?_
    refine lv_iload_n hx hb dX7_uses_14 rfl (lv_at hl 2 rfl) ?_
    obtain ⟨hg, hf⟩ := gd_some hf
    refine g_iald X w (KD_ru_1 hr0) hv2 hg dX7_uses_15 ?_
    refine g_bipush X dX7_uses_16 (by decide) ?_
    refine g_icmp_ne (tgt := 31) X (w.2.2 _ _) (inL rfl) dX7_uses_18 (by decide) (fun cd_2 => ?_) (fun cd_2 => ?_)
    · replace hf := ite_f cd_2 hf
      refine lv_aload_n hx hb dX7_uses_31 rfl (lv_at hl 0 rfl) ?_
      refine g_iconst X dX7_uses_32 ?_
      refine lv_iload_n hx hb dX7_uses_33 rfl (lv_at hl 2 rfl) ?_
      refine g_imul X dX7_uses_34 ?_
      refine lv_iload_n hx hb dX7_uses_35 rfl (lv_at hl 1 rfl) ?_
      obtain ⟨r, hc, hf⟩ := obn_some hf
      refine g_cvi (As := [.int (i2 (wrap (2 * v2))), .int (i2 v1)]) (rest := []) X w (k_X7_termsUse X.2.2.1 r0 hr0 (wrap (2 * v2)) (inR_wrap _) v1 hv1 w.2.2 hc) lk_X7_47 cl_7 (KD_ru hr0) ⟨rfl, rfl⟩ ⟨nle rfl, nle rfl⟩ ⟨nle rfl, nle rfl⟩ hl.1 rfl (nle rfl) dX7_uses_36 (fun hr H locs w => ?_)
      refine g_if_ne (tgt := 55) X hr dX7_uses_39 (by decide) (fun cd_3 => ?_) (fun cd_3 => ?_)
      · replace hf := ite_f cd_3 hf
        refine g_iconst X dX7_uses_55 ?_
        exact HR 1 _ _ _ _ (Option.some.inj hf).symm (Or.inr rfl) w dX7_uses_56
      · replace hf := ite_t cd_3 hf
        refine lv_aload_n hx hb dX7_uses_42 rfl (lv_at hl 0 rfl) ?_
        refine g_iconst X dX7_uses_43 ?_
        refine lv_iload_n hx hb dX7_uses_44 rfl (lv_at hl 2 rfl) ?_
        refine g_imul X dX7_uses_45 ?_
        refine g_iconst X dX7_uses_46 ?_
        refine g_iadd X dX7_uses_47 ?_
        refine lv_iload_n hx hb dX7_uses_48 rfl (lv_at hl 1 rfl) ?_
        obtain ⟨r_2, hc, hf⟩ := obn_some hf
        refine g_cvi (As := [.int (i2 (wrap ((wrap (2 * v2)) + 1))), .int (i2 v1)]) (rest := []) X w (k_X7_termsUse X.2.2.1 r0 hr0 (wrap ((wrap (2 * v2)) + 1)) (inR_wrap _) v1 hv1 w.2.2 hc) lk_X7_47 cl_7 (KD_ru hr0) ⟨rfl, rfl⟩ ⟨nle rfl, nle rfl⟩ ⟨nle rfl, nle rfl⟩ hl.1 rfl (nle rfl) dX7_uses_49 (fun hr_2 H locs w => ?_)
        refine g_if_eq (tgt := 57) X hr_2 dX7_uses_52 (by decide) (fun cd_4 => ?_) (fun cd_4 => ?_)
        · replace hf := ite_t cd_4 hf
          obtain ⟨v2_2, ev2_2, hf⟩ := lt_some hf
          have hv2_2 : inR v2_2 := inR_of ev2_2 (inR_wrap _)
          refine lv_iinc (v := i2 v2_2) (lv' := [(2, .int (i2 v2_2)), (0, .ref (ad r0.toNat)), (1, .int (i2 v1))]) hx hb dX7_uses_57 hl (k := 2) rfl (by rw [ev2_2]; exact i2_add _ _) (by decide) rfl (fun ls hl => ?_)
          refine lv_goto (tgt := 2) hx hb dX7_uses_60 (by decide) ?_
          exact HC v2_2 _ _ _ (Option.some.inj hf).symm hv2_2 (lv_sub hl [1, 2, 0] rfl) w
        · replace hf := ite_f cd_4 hf
          refine g_iconst X dX7_uses_55 ?_
          exact HR 1 _ _ _ _ (Option.some.inj hf).symm (Or.inr rfl) w dX7_uses_56
    · replace hf := ite_t cd_2 hf
      refine lv_aload_n hx hb dX7_uses_21 rfl (lv_at hl 0 rfl) ?_
      refine g_getr X w fg_X7_18 (KD_ru hr0) (FR_ru_3 hr0) dX7_uses_22 ?_
      refine lv_iload_n hx hb dX7_uses_25 rfl (lv_at hl 2 rfl) ?_
      obtain ⟨hg_2, hf⟩ := gd_some hf
      refine g_iald X w (KD_ru_3 hr0) hv2 hg_2 dX7_uses_26 ?_
      refine lv_iload_n hx hb dX7_uses_27 rfl (lv_at hl 1 rfl) ?_
      refine g_icmp_eq (tgt := 55) X (w.2.2 _ _) hv1 dX7_uses_28 (by decide) (fun cd_5 => ?_) (fun cd_5 => ?_)
      · replace hf := ite_t cd_5 hf
        refine g_iconst X dX7_uses_55 ?_
        exact HR 1 _ _ _ _ (Option.some.inj hf).symm (Or.inr rfl) w dX7_uses_56
      · replace hf := ite_f cd_5 hf
        refine lv_aload_n hx hb dX7_uses_31 rfl (lv_at hl 0 rfl) ?_
        refine g_iconst X dX7_uses_32 ?_
        refine lv_iload_n hx hb dX7_uses_33 rfl (lv_at hl 2 rfl) ?_
        refine g_imul X dX7_uses_34 ?_
        refine lv_iload_n hx hb dX7_uses_35 rfl (lv_at hl 1 rfl) ?_
        obtain ⟨r_3, hc, hf⟩ := obn_some hf
        refine g_cvi (As := [.int (i2 (wrap (2 * v2))), .int (i2 v1)]) (rest := []) X w (k_X7_termsUse X.2.2.1 r0 hr0 (wrap (2 * v2)) (inR_wrap _) v1 hv1 w.2.2 hc) lk_X7_47 cl_7 (KD_ru hr0) ⟨rfl, rfl⟩ ⟨nle rfl, nle rfl⟩ ⟨nle rfl, nle rfl⟩ hl.1 rfl (nle rfl) dX7_uses_36 (fun hr_3 H locs w => ?_)
        refine g_if_ne (tgt := 55) X hr_3 dX7_uses_39 (by decide) (fun cd_6 => ?_) (fun cd_6 => ?_)
        · replace hf := ite_f cd_6 hf
          refine g_iconst X dX7_uses_55 ?_
          exact HR 1 _ _ _ _ (Option.some.inj hf).symm (Or.inr rfl) w dX7_uses_56
        · replace hf := ite_t cd_6 hf
          refine lv_aload_n hx hb dX7_uses_42 rfl (lv_at hl 0 rfl) ?_
          refine g_iconst X dX7_uses_43 ?_
          refine lv_iload_n hx hb dX7_uses_44 rfl (lv_at hl 2 rfl) ?_
          refine g_imul X dX7_uses_45 ?_
          refine g_iconst X dX7_uses_46 ?_
          refine g_iadd X dX7_uses_47 ?_
          refine lv_iload_n hx hb dX7_uses_48 rfl (lv_at hl 1 rfl) ?_
          obtain ⟨r_4, hc, hf⟩ := obn_some hf
          refine g_cvi (As := [.int (i2 (wrap ((wrap (2 * v2)) + 1))), .int (i2 v1)]) (rest := []) X w (k_X7_termsUse X.2.2.1 r0 hr0 (wrap ((wrap (2 * v2)) + 1)) (inR_wrap _) v1 hv1 w.2.2 hc) lk_X7_47 cl_7 (KD_ru hr0) ⟨rfl, rfl⟩ ⟨nle rfl, nle rfl⟩ ⟨nle rfl, nle rfl⟩ hl.1 rfl (nle rfl) dX7_uses_49 (fun hr_4 H locs w => ?_)
          refine g_if_eq (tgt := 57) X hr_4 dX7_uses_52 (by decide) (fun cd_7 => ?_) (fun cd_7 => ?_)
          · replace hf := ite_t cd_7 hf
            obtain ⟨v2_3, ev2_3, hf⟩ := lt_some hf
            have hv2_3 : inR v2_3 := inR_of ev2_3 (inR_wrap _)
            refine lv_iinc (v := i2 v2_3) (lv' := [(2, .int (i2 v2_3)), (0, .ref (ad r0.toNat)), (1, .int (i2 v1))]) hx hb dX7_uses_57 hl (k := 2) rfl (by rw [ev2_3]; exact i2_add _ _) (by decide) rfl (fun ls hl => ?_)
            refine lv_goto (tgt := 2) hx hb dX7_uses_60 (by decide) ?_
            exact HC v2_3 _ _ _ (Option.some.inj hf).symm hv2_3 (lv_sub hl [1, 2, 0] rfl) w
          · replace hf := ite_f cd_7 hf
            refine g_iconst X dX7_uses_55 ?_
            exact HR 1 _ _ _ _ (Option.some.inj hf).symm (Or.inr rfl) w dX7_uses_56
set_option maxRecDepth 100000 in
set_option maxHeartbeats 4000000 in
theorem l_X7_uses_2 (X : CX p s m args c cX7_uses 3 RX7 D aC ad sg A H0) (r0 : Int) (hr0 : isRu r0) (v1 : Int) (hv1 : inR v1) {M : Mem} {out : (Int) ⊕ (Int)} (HE : ∀ (y2 : Int) (H : Heap) (locs : List Loc) (ls : Array Slot), out = .inl y2 → inR y2 → lv_has ls 3 [(0, .ref (ad r0.toNat)), (1, .int (i2 v1)), (2, .int (i2 y2))] → WS D aC ad A H0 M H locs → W p l e rm_X7_uses s m args below meth c H locs 0 0 Q (F0 m 63 ls [])) (HR : ∀ (r : Int) (H : Heap) (locs : List Loc) (pc : Nat) (ls : Array Slot), out = .inr r → isZ r → WS D aC ad A H0 M H locs → decode cX7_uses pc = .ok (.ireturn, 1) → W p l e rm_X7_uses s m args below meth c H locs 0 0 Q (F0 m pc ls [.int (i2 r)])) : ∀ (n : Nat) (v2 : Int), whl (fun s => f_X7_uses_s2 r0 v1 M s) n v2 = some out → inR v2 → ∀ {H : Heap} {locs : List Loc} {ls : Array Slot}, lv_has ls 3 [(0, .ref (ad r0.toNat)), (1, .int (i2 v1)), (2, .int (i2 v2))] → WS D aC ad A H0 M H locs → W p l e rm_X7_uses s m args below meth c H locs 0 0 Q (F0 m 2 ls []) := by
  intro n
  induction n with
  | zero => intro v2 hf; exact (whl_zero hf).elim
  | succ n ih =>
    intro v2 hf hv2 H locs ls hl w
    obtain ⟨o, hf, hk1, hk2⟩ := whl_step hf
    exact b_X7_uses_s2 X r0 hr0 v1 hv1 (fun y2 H locs ls eo hy2 hl w => ih y2 (hk1 _ eo) hy2 hl w) (fun y2 H locs ls eo hy2 hl w => HE y2 H locs ls (hk2 _ eo).symm hy2 hl w) (fun r H locs pc ls eo hP w dg => HR r H locs pc ls (hk2 _ eo).symm hP w dg) v2 hv2 hf hl w
set_option maxRecDepth 100000 in
set_option maxHeartbeats 4000000 in
theorem b_X7_uses_j63 (X : CX p s m args c cX7_uses 3 RX7 D aC ad sg A H0) (r0 : Int) (hr0 : isRu r0) {M : Mem} {o : Int} (HR : ∀ (r : Int) (H : Heap) (locs : List Loc) (pc : Nat) (ls : Array Slot), o = r → isZ r → WS D aC ad A H0 M H locs → decode cX7_uses pc = .ok (.ireturn, 1) → W p l e rm_X7_uses s m args below meth c H locs 0 0 Q (F0 m pc ls [.int (i2 r)])) (hf : f_X7_uses_j63 r0 M = some o) {H : Heap} {locs : List Loc} {ls : Array Slot} (hl : lv_has ls 3 []) (w : WS D aC ad A H0 M H locs) : W p l e rm_X7_uses s m args below meth c H locs 0 0 Q (F0 m 63 ls []) := by
  have hx := X.1.1
  have hb := X.1.2.1
  unfold f_X7_uses_j63 at hf
  refine g_iconst X dX7_uses_63 ?_
  exact HR 0 _ _ _ _ (Option.some.inj hf).symm (Or.inl rfl) w dX7_uses_64
set_option maxRecDepth 100000 in
set_option maxHeartbeats 4000000 in
theorem b_X7_uses_0 (X : CX p s m args c cX7_uses 3 RX7 D aC ad sg A H0) (r0 : Int) (hr0 : isRu r0) {M : Mem} {o : Int} (HR : ∀ (r : Int) (H : Heap) (locs : List Loc) (pc : Nat) (ls : Array Slot), o = r → isZ r → WS D aC ad A H0 M H locs → decode cX7_uses pc = .ok (.ireturn, 1) → W p l e rm_X7_uses s m args below meth c H locs 0 0 Q (F0 m pc ls [.int (i2 r)])) (p1 : Int) (hp1 : inR p1) (hf : f_X7_uses r0 p1 M = some o) {H : Heap} {locs : List Loc} {ls : Array Slot} (hl : lv_has ls 3 [(0, .ref (ad r0.toNat)), (1, .int (i2 p1))]) (w : WS D aC ad A H0 M H locs) : W p l e rm_X7_uses s m args below meth c H locs 0 0 Q (F0 m 0 ls []) := by
  have hx := X.1.1
  have hb := X.1.2.1
  unfold f_X7_uses at hf
  refine g_iconst X dX7_uses_0 ?_
  refine g_istn (v := 0) (lv' := [(2, .int (i2 0)), (0, .ref (ad r0.toNat)), (1, .int (i2 p1))]) X rfl dX7_uses_1 rfl hl (by decide) rfl (fun ls hl => ?_)
  obtain ⟨q, hq, h1, h2⟩ := lpr_some hf
  exact l_X7_uses_2 X r0 hr0 p1 hp1 (out := q) (fun y2 H locs ls eq hy2 hl w => b_X7_uses_j63 X r0 hr0 HR  (h1 _ eq) (lv_sub hl [] rfl) w) (fun r H locs pc ls eq hP w dg => HR r H locs pc ls (Option.some.inj (h2 _ eq)).symm hP w dg) FU 0 hq (inL rfl) (lv_sub hl [1, 2, 0] rfl) w
set_option maxRecDepth 100000 in
set_option maxHeartbeats 4000000 in
theorem k_X7_uses {l : Launch} {D : va_G} {aC : Nat → ClassId} {ad : Nat → Nat} {sg : SG} (hi : Inj ad) (r0 : Int) (hr0 : isRu r0) (p1 : Int) (hp1 : inR p1) {M : Mem} (hM : inM M) {r : Int} (hf : f_X7_uses r0 p1 M = some r) : MetI l D aC ad sg yX7_uses cX7_uses 3 (some .boolean) rm_X7_uses 0 0 [.ref (ad r0.toNat), .int (i2 p1)] M r M := by
  refine MetI.ofZ (by decide +kernel) (nle rfl) hi hM (fun p e s m args below meth c Q H0 ls X hl w hret => ?_)
  exact b_X7_uses_0 X r0 hr0 (fun r1 H locs pc ls eo hP w dg => by cases eo; exact hret H locs pc ls hP w dg) p1 hp1 hf hl w
set_option maxRecDepth 100000 in
set_option maxHeartbeats 4000000 in
theorem b_X7_clear_0 (X : CX p s m args c cX7_clear 1 RX7 D aC ad sg A H0) (r0 : Int) (hr0 : isRu r0) {o : Mem} (HR : ∀ (M1 : Mem) (H : Heap) (locs : List Loc) (pc : Nat) (ls : Array Slot), o = M1 → WS D aC ad A H0 M1 H locs → decode cX7_clear pc = .ok (.return_, 1) → W p l e rm_X7_clear s m args below meth c H locs 0 0 Q (F0 m pc ls [])) (M : Mem) (hf : f_X7_clear r0 M = some o) {H : Heap} {locs : List Loc} {ls : Array Slot} (hl : lv_has ls 1 [(0, .ref (ad r0.toNat))]) (w : WS D aC ad A H0 M H locs) : W p l e rm_X7_clear s m args below meth c H locs 0 0 Q (F0 m 0 ls []) := by
  have hx := X.1.1
  have hb := X.1.2.1
  unfold f_X7_clear at hf
  refine lv_aload_n hx hb dX7_clear_0 rfl (lv_at hl 0 rfl) ?_
  refine g_iconst X dX7_clear_1 ?_
  obtain ⟨M_2, eM_2, hf⟩ := lt_some hf
  refine g_puti X w fp_X7_37 (KD_ru hr0) (FR_ru_0 hr0) (inL rfl) dX7_clear_2 (fun H locs w_M_2 => ?_)
  rw [← eM_2] at w_M_2
  refine lv_aload_n hx hb dX7_clear_5 rfl (lv_at hl 0 rfl) ?_
  refine g_getr X w_M_2 fg_X7_21 (KD_ru hr0) (FR_ru_4 hr0) dX7_clear_6 ?_
  refine g_iconst X dX7_clear_9 ?_
  obtain ⟨M_3, hc, hf⟩ := obn_some hf
  refine g_csv (As := [.ref (ad (r0.toNat + 4)), .int (i2 0)]) (rest := []) X w_M_2 (k_J7_fill_53178 X.2.2.1 (r0.toNat + 4) (KA_ru_4 hr0) 0 (inL rfl) w_M_2.2.2 hc) lk_X7_41 ⟨rfl, rfl⟩ ⟨nle rfl, nle rfl⟩ ⟨nle rfl, nle rfl⟩ hl.1 rfl (nle rfl) dX7_clear_10 (fun H locs w_M_3 => ?_)
  exact HR M_3 _ _ _ _ (Option.some.inj hf).symm w_M_3 dX7_clear_13
set_option maxRecDepth 100000 in
set_option maxHeartbeats 4000000 in
theorem k_X7_clear {l : Launch} {D : va_G} {aC : Nat → ClassId} {ad : Nat → Nat} {sg : SG} (hi : Inj ad) (r0 : Int) (hr0 : isRu r0) {M : Mem} (hM : inM M) {M' : Mem} (hf : f_X7_clear r0 M = some M') : MetV l D aC ad sg yX7_clear cX7_clear 1 rm_X7_clear 0 0 [.ref (ad r0.toNat)] M M' := by
  refine MetV.of (by decide +kernel) (nle rfl) hi hM (fun p e s m args below meth c Q H0 ls X hl w hret => ?_)
  exact b_X7_clear_0 X r0 hr0 (fun M1 H locs pc ls eo w dg => by cases eo; exact hret H locs pc ls w dg) M hf hl w
set_option maxRecDepth 100000 in
set_option maxHeartbeats 4000000 in
theorem b_X7_takesTerms_0 (X : CX p s m args c cX7_takesTerms 3 RX7 D aC ad sg A H0) (r0 : Int) (hr0 : isRu r0) {M : Mem} {o : Int} (HR : ∀ (r : Int) (H : Heap) (locs : List Loc) (pc : Nat) (ls : Array Slot), o = r → isZ r → WS D aC ad A H0 M H locs → decode cX7_takesTerms pc = .ok (.ireturn, 1) → W p l e rm_X7_takesTerms s m args below meth c H locs 0 0 Q (F0 m pc ls [.int (i2 r)])) (p1 : Int) (hp1 : inR p1) (p2 : Int) (hp2 : inR p2) (hf : f_X7_takesTerms r0 p1 p2 M = some o) {H : Heap} {locs : List Loc} {ls : Array Slot} (hl : lv_has ls 3 [(0, .ref (ad r0.toNat)), (1, .int (i2 p1)), (2, .int (i2 p2))]) (w : WS D aC ad A H0 M H locs) : W p l e rm_X7_takesTerms s m args below meth c H locs 0 0 Q (F0 m 0 ls []) := by
  have hx := X.1.1
  have hb := X.1.2.1
  unfold f_X7_takesTerms at hf
  refine lv_aload_n hx hb dX7_takesTerms_0 rfl (lv_at hl 0 rfl) ?_
  refine g_getr X w fg_X7_11 (KD_ru hr0) (FR_ru_1 hr0) dX7_takesTerms_1 ?_
  refine lv_iload_n hx hb dX7_takesTerms_4 rfl (lv_at hl 1 rfl) ?_
  obtain ⟨hg, hf⟩ := gd_some hf
  refine g_iald X w (KD_ru_1 hr0) hp1 hg dX7_takesTerms_5 ?_
  by_cases cd : (M (r0.toNat + 1) p1.toNat) < 8 ∨ 15 < (M (r0.toNat + 1) p1.toNat)
  · replace hf := ite_t cd hf
    refine g_tout (tgt := 64) X (w.2.2 _ _) cd dX7_takesTerms_6 (by decide) ?_
    refine g_iconst X dX7_takesTerms_64 ?_
    exact HR 0 _ _ _ _ (Option.some.inj hf).symm (Or.inl rfl) w dX7_takesTerms_65
  · replace hf := ite_f cd hf
    by_cases cd_2 : (M (r0.toNat + 1) p1.toNat) = 8
    · replace hf := ite_t cd_2 hf
      refine g_tin (tgt := 54) (k := 8) (off := 48) X cd_2 (w.2.2 _ _) (by decide) (by decide) (by rfl) dX7_takesTerms_6 (by decide) ?_
      refine lv_iload_n hx hb dX7_takesTerms_54 rfl (lv_at hl 2 rfl) ?_
      refine g_if_ne (tgt := 62) X hp2 dX7_takesTerms_55 (by decide) (fun cd_3 => ?_) (fun cd_3 => ?_)
      · replace hf := ite_f cd_3 hf
        refine g_iconst X dX7_takesTerms_62 ?_
        exact HR 0 _ _ _ _ (Option.some.inj hf).symm (Or.inl rfl) w dX7_takesTerms_63
      · replace hf := ite_t cd_3 hf
        refine g_iconst X dX7_takesTerms_58 ?_
        refine lv_goto (tgt := 63) hx hb dX7_takesTerms_59 (by decide) ?_
        exact HR 1 _ _ _ _ (Option.some.inj hf).symm (Or.inr rfl) w dX7_takesTerms_63
    · replace hf := ite_f cd_2 hf
      by_cases cd_4 : (M (r0.toNat + 1) p1.toNat) = 9
      · replace hf := ite_t cd_4 hf
        refine g_tin (tgt := 64) (k := 9) (off := 58) X cd_4 (w.2.2 _ _) (by decide) (by decide) (by rfl) dX7_takesTerms_6 (by decide) ?_
        refine g_iconst X dX7_takesTerms_64 ?_
        exact HR 0 _ _ _ _ (Option.some.inj hf).symm (Or.inl rfl) w dX7_takesTerms_65
      · replace hf := ite_f cd_4 hf
        by_cases cd_5 : (M (r0.toNat + 1) p1.toNat) = 10
        · replace hf := ite_t cd_5 hf
          refine g_tin (tgt := 64) (k := 10) (off := 58) X cd_5 (w.2.2 _ _) (by decide) (by decide) (by rfl) dX7_takesTerms_6 (by decide) ?_
          refine g_iconst X dX7_takesTerms_64 ?_
          exact HR 0 _ _ _ _ (Option.some.inj hf).symm (Or.inl rfl) w dX7_takesTerms_65
        · replace hf := ite_f cd_5 hf
          by_cases cd_6 : (M (r0.toNat + 1) p1.toNat) = 11
          · replace hf := ite_t cd_6 hf
            refine g_tin (tgt := 54) (k := 11) (off := 48) X cd_6 (w.2.2 _ _) (by decide) (by decide) (by rfl) dX7_takesTerms_6 (by decide) ?_
            refine lv_iload_n hx hb dX7_takesTerms_54 rfl (lv_at hl 2 rfl) ?_
            refine g_if_ne (tgt := 62) X hp2 dX7_takesTerms_55 (by decide) (fun cd_7 => ?_) (fun cd_7 => ?_)
            · replace hf := ite_f cd_7 hf
              refine g_iconst X dX7_takesTerms_62 ?_
              exact HR 0 _ _ _ _ (Option.some.inj hf).symm (Or.inl rfl) w dX7_takesTerms_63
            · replace hf := ite_t cd_7 hf
              refine g_iconst X dX7_takesTerms_58 ?_
              refine lv_goto (tgt := 63) hx hb dX7_takesTerms_59 (by decide) ?_
              exact HR 1 _ _ _ _ (Option.some.inj hf).symm (Or.inr rfl) w dX7_takesTerms_63
          · replace hf := ite_f cd_6 hf
            by_cases cd_8 : (M (r0.toNat + 1) p1.toNat) = 12
            · replace hf := ite_t cd_8 hf
              refine g_tin (tgt := 64) (k := 12) (off := 58) X cd_8 (w.2.2 _ _) (by decide) (by decide) (by rfl) dX7_takesTerms_6 (by decide) ?_
              refine g_iconst X dX7_takesTerms_64 ?_
              exact HR 0 _ _ _ _ (Option.some.inj hf).symm (Or.inl rfl) w dX7_takesTerms_65
            · replace hf := ite_f cd_8 hf
              by_cases cd_9 : (M (r0.toNat + 1) p1.toNat) = 13
              · replace hf := ite_t cd_9 hf
                refine g_tin (tgt := 52) (k := 13) (off := 46) X cd_9 (w.2.2 _ _) (by decide) (by decide) (by rfl) dX7_takesTerms_6 (by decide) ?_
                refine g_iconst X dX7_takesTerms_52 ?_
                exact HR 1 _ _ _ _ (Option.some.inj hf).symm (Or.inr rfl) w dX7_takesTerms_53
              · replace hf := ite_f cd_9 hf
                by_cases cd_10 : (M (r0.toNat + 1) p1.toNat) = 14
                · replace hf := ite_t cd_10 hf
                  refine g_tin (tgt := 54) (k := 14) (off := 48) X cd_10 (w.2.2 _ _) (by decide) (by decide) (by rfl) dX7_takesTerms_6 (by decide) ?_
                  refine lv_iload_n hx hb dX7_takesTerms_54 rfl (lv_at hl 2 rfl) ?_
                  refine g_if_ne (tgt := 62) X hp2 dX7_takesTerms_55 (by decide) (fun cd_11 => ?_) (fun cd_11 => ?_)
                  · replace hf := ite_f cd_11 hf
                    refine g_iconst X dX7_takesTerms_62 ?_
                    exact HR 0 _ _ _ _ (Option.some.inj hf).symm (Or.inl rfl) w dX7_takesTerms_63
                  · replace hf := ite_t cd_11 hf
                    refine g_iconst X dX7_takesTerms_58 ?_
                    refine lv_goto (tgt := 63) hx hb dX7_takesTerms_59 (by decide) ?_
                    exact HR 1 _ _ _ _ (Option.some.inj hf).symm (Or.inr rfl) w dX7_takesTerms_63
                · replace hf := ite_f cd_10 hf
                  by_cases cd_12 : (M (r0.toNat + 1) p1.toNat) = 15
                  · replace hf := ite_t cd_12 hf
                    refine g_tin (tgt := 54) (k := 15) (off := 48) X cd_12 (w.2.2 _ _) (by decide) (by decide) (by rfl) dX7_takesTerms_6 (by decide) ?_
                    refine lv_iload_n hx hb dX7_takesTerms_54 rfl (lv_at hl 2 rfl) ?_
                    refine g_if_ne (tgt := 62) X hp2 dX7_takesTerms_55 (by decide) (fun cd_13 => ?_) (fun cd_13 => ?_)
                    · replace hf := ite_f cd_13 hf
                      refine g_iconst X dX7_takesTerms_62 ?_
                      exact HR 0 _ _ _ _ (Option.some.inj hf).symm (Or.inl rfl) w dX7_takesTerms_63
                    · replace hf := ite_t cd_13 hf
                      refine g_iconst X dX7_takesTerms_58 ?_
                      refine lv_goto (tgt := 63) hx hb dX7_takesTerms_59 (by decide) ?_
                      exact HR 1 _ _ _ _ (Option.some.inj hf).symm (Or.inr rfl) w dX7_takesTerms_63
                  · replace hf := ite_f cd_12 hf
                    cases hf
set_option maxRecDepth 100000 in
set_option maxHeartbeats 4000000 in
theorem k_X7_takesTerms {l : Launch} {D : va_G} {aC : Nat → ClassId} {ad : Nat → Nat} {sg : SG} (hi : Inj ad) (r0 : Int) (hr0 : isRu r0) (p1 : Int) (hp1 : inR p1) (p2 : Int) (hp2 : inR p2) {M : Mem} (hM : inM M) {r : Int} (hf : f_X7_takesTerms r0 p1 p2 M = some r) : MetI l D aC ad sg yX7_takesTerms cX7_takesTerms 3 (some .boolean) rm_X7_takesTerms 0 0 [.ref (ad r0.toNat), .int (i2 p1), .int (i2 p2)] M r M := by
  refine MetI.ofZ (by decide +kernel) (nle rfl) hi hM (fun p e s m args below meth c Q H0 ls X hl w hret => ?_)
  exact b_X7_takesTerms_0 X r0 hr0 (fun r1 H locs pc ls eo hP w dg => by cases eo; exact hret H locs pc ls hP w dg) p1 hp1 p2 hp2 hf hl w
end
section
variable {p : Program} {l : Launch} {e : Env} {s : State} {m : MethodId} {args : Array Value} {below : List Frame} {meth : Method} {c : Code} {Q : State → Prop} {D : va_G} {aC : Nat → ClassId} {ad : Nat → Nat} {sg : SG} {A : Nat → Prop} {H0 : Heap}
set_option maxRecDepth 100000 in
set_option maxHeartbeats 4000000 in
theorem b_X0_write_s3 (X : CX p s m args c cX0_write 5 RX0 D aC ad sg A H0) (p1 : Nat) (hp1 : KD[p1]? = some (.inr (0, aln p1))) (v2 : Int) (hv2 : inR v2) (v3 : Int) (hv3 : inR v3) {o : (Int × Mem) ⊕ (Int × Mem)} (HC : ∀ (y4 : Int) (M1 : Mem) (H : Heap) (locs : List Loc) (ls : Array Slot), o = .inl (y4, M1) → inR y4 → lv_has ls 5 [(0, .ref (ad 57)), (1, .ref (ad p1)), (2, .int (i2 v2)), (3, .int (i2 v3)), (4, .int (i2 y4))] → WS D aC ad A H0 M1 H locs → W p l e rm_X0_write s m args below meth c H locs 0 0 Q (F0 m 3 ls [])) (HE : ∀ (y4 : Int) (M1 : Mem) (H : Heap) (locs : List Loc) (ls : Array Slot), o = .inr (y4, M1) → inR y4 → lv_has ls 5 [(0, .ref (ad 57)), (1, .ref (ad p1)), (2, .int (i2 v2)), (3, .int (i2 v3)), (4, .int (i2 y4))] → WS D aC ad A H0 M1 H locs → W p l e rm_X0_write s m args below meth c H locs 0 0 Q (F0 m 94 ls [])) (v4 : Int) (hv4 : inR v4) (M : Mem) (hf : f_X0_write_s3 p1 v2 v3 v4 M = some o) {H : Heap} {locs : List Loc} {ls : Array Slot} (hl : lv_has ls 5 [(0, .ref (ad 57)), (1, .ref (ad p1)), (2, .int (i2 v2)), (3, .int (i2 v3)), (4, .int (i2 v4))]) (w : WS D aC ad A H0 M H locs) : W p l e rm_X0_write s m args below meth c H locs 0 0 Q (F0 m 3 ls []) := by
  have hx := X.1.1
  have hb := X.1.2.1
  unfold f_X0_write_s3 at hf
  refine lv_iload hx hb dX0_write_3 (lv_at hl 4 rfl) ?_
  refine lv_iload_n hx hb dX0_write_5 rfl (lv_at hl 2 rfl) ?_
  refine g_icmp_ge (tgt := 94) X hv4 hv2 dX0_write_6 (by decide) (fun cd => ?_) (fun cd => ?_)
  · replace hf := ite_t cd hf
    exact HE v4 M _ _ _ (Option.some.inj hf).symm hv4 hl w
  · replace hf := ite_f cd hf
    refine lv_aload_n hx hb dX0_write_9 rfl (lv_at hl 0 rfl) ?_
    refine g_geti X w fg_X0_30 KD_57 FR_57_0 dX0_write_10 ?_
    refine g_sipush X dX0_write_13 (by decide) ?_
    refine g_icmp_ge (tgt := 94) X (w.2.2 _ _) (inL rfl) dX0_write_16 (by decide) (fun cd_2 => ?_) (fun cd_2 => ?_)
    · replace hf := ite_t cd_2 hf
      exact HE v4 M _ _ _ (Option.some.inj hf).symm hv4 hl w
    · replace hf := ite_f cd_2 hf
      refine lv_aload_n hx hb dX0_write_19 rfl (lv_at hl 1 rfl) ?_
      refine lv_iload hx hb dX0_write_20 (lv_at hl 4 rfl) ?_
      obtain ⟨hg, hf⟩ := gd_some hf
      refine g_iald X w hp1 hv4 hg dX0_write_22 ?_
      refine lv_aload_n hx hb dX0_write_23 rfl (lv_at hl 0 rfl) ?_
      refine g_getr X w fg_X0_21 KD_57 FR_57_4 dX0_write_24 ?_
      refine lv_iload hx hb dX0_write_27 (lv_at hl 4 rfl) ?_
      obtain ⟨hg_2, hf⟩ := gd_some hf
      refine g_iald X w KD_61 hv4 hg_2 dX0_write_29 ?_
      refine g_icmp_eq (tgt := 88) X (w.2.2 _ _) (w.2.2 _ _) dX0_write_30 (by decide) (fun cd_3 => ?_) (fun cd_3 => ?_)
      · replace hf := ite_t cd_3 hf
        obtain ⟨v4_2, ev4_2, hf⟩ := lt_some hf
        have hv4_2 : inR v4_2 := inR_of ev4_2 (inR_wrap _)
        refine lv_iinc (v := i2 v4_2) (lv' := [(4, .int (i2 v4_2)), (0, .ref (ad 57)), (1, .ref (ad p1)), (2, .int (i2 v2)), (3, .int (i2 v3))]) hx hb dX0_write_88 hl (k := 4) rfl (by rw [ev4_2]; exact i2_add _ _) (by decide) rfl (fun ls hl => ?_)
        refine lv_goto (tgt := 3) hx hb dX0_write_91 (by decide) ?_
        exact HC v4_2 M _ _ _ (Option.some.inj hf).symm hv4_2 (lv_sub hl [1, 2, 3, 4, 0] rfl) w
      · replace hf := ite_f cd_3 hf
        refine lv_aload_n hx hb dX0_write_33 rfl (lv_at hl 0 rfl) ?_
        refine g_getr X w fg_X0_11 KD_57 FR_57_1 dX0_write_34 ?_
        refine lv_aload_n hx hb dX0_write_37 rfl (lv_at hl 0 rfl) ?_
        refine g_geti X w fg_X0_30 KD_57 FR_57_0 dX0_write_38 ?_
        refine lv_iload hx hb dX0_write_41 (lv_at hl 4 rfl) ?_
        obtain ⟨hg_3, hf⟩ := gd_some hf
        obtain ⟨M_2, eM_2, hf⟩ := lt_some hf
        refine g_iast X w KD_58 (w.2.2 _ _) hg_3 hv4 dX0_write_43 (fun H locs w_M_2 => ?_)
        rw [← eM_2] at w_M_2
        refine lv_aload_n hx hb dX0_write_44 rfl (lv_at hl 0 rfl) ?_
        refine g_getr X w_M_2 fg_X0_15 KD_57 FR_57_2 dX0_write_45 ?_
        refine lv_aload_n hx hb dX0_write_48 rfl (lv_at hl 0 rfl) ?_
        refine g_geti X w_M_2 fg_X0_30 KD_57 FR_57_0 dX0_write_49 ?_
        refine lv_aload_n hx hb dX0_write_52 rfl (lv_at hl 1 rfl) ?_
        refine lv_iload hx hb dX0_write_53 (lv_at hl 4 rfl) ?_
        obtain ⟨hg_4, hf⟩ := gd_some hf
        refine g_iald X w_M_2 hp1 hv4 hg_4 dX0_write_55 ?_
        obtain ⟨hg_5, hf⟩ := gd_some hf
        obtain ⟨M_3, eM_3, hf⟩ := lt_some hf
        refine g_iast X w_M_2 KD_59 (w_M_2.2.2 _ _) hg_5 (w_M_2.2.2 _ _) dX0_write_56 (fun H locs w_M_3 => ?_)
        rw [← eM_3] at w_M_3
        refine lv_aload_n hx hb dX0_write_57 rfl (lv_at hl 0 rfl) ?_
        refine g_getr X w_M_3 fg_X0_18 KD_57 FR_57_3 dX0_write_58 ?_
        refine lv_aload_n hx hb dX0_write_61 rfl (lv_at hl 0 rfl) ?_
        refine g_geti X w_M_3 fg_X0_30 KD_57 FR_57_0 dX0_write_62 ?_
        refine lv_iload_n hx hb dX0_write_65 rfl (lv_at hl 3 rfl) ?_
        obtain ⟨hg_6, hf⟩ := gd_some hf
        obtain ⟨M_4, eM_4, hf⟩ := lt_some hf
        refine g_iast X w_M_3 KD_60 (w_M_3.2.2 _ _) hg_6 hv3 dX0_write_66 (fun H locs w_M_4 => ?_)
        rw [← eM_4] at w_M_4
        refine lv_aload_n hx hb dX0_write_67 rfl (lv_at hl 0 rfl) ?_
        refine g_getr X w_M_4 fg_X0_21 KD_57 FR_57_4 dX0_write_68 ?_
        refine lv_iload hx hb dX0_write_71 (lv_at hl 4 rfl) ?_
        refine lv_aload_n hx hb dX0_write_73 rfl (lv_at hl 1 rfl) ?_
        refine lv_iload hx hb dX0_write_74 (lv_at hl 4 rfl) ?_
        obtain ⟨hg_7, hf⟩ := gd_some hf
        refine g_iald X w_M_4 hp1 hv4 hg_7 dX0_write_76 ?_
        obtain ⟨hg_8, hf⟩ := gd_some hf
        obtain ⟨M_5, eM_5, hf⟩ := lt_some hf
        refine g_iast X w_M_4 KD_61 hv4 hg_8 (w_M_4.2.2 _ _) dX0_write_77 (fun H locs w_M_5 => ?_)
        rw [← eM_5] at w_M_5
        refine lv_aload_n hx hb dX0_write_78 rfl (lv_at hl 0 rfl) ?_
        refine lv_dup hx hb dX0_write_79 rfl ?_
        refine g_geti X w_M_5 fg_X0_30 KD_57 FR_57_0 dX0_write_80 ?_
        refine g_iconst X dX0_write_83 ?_
        refine g_iadd X dX0_write_84 ?_
        obtain ⟨M_6, eM_6, hf⟩ := lt_some hf
        refine g_puti X w_M_5 fp_X0_30 KD_57 FR_57_0 (inR_wrap _) dX0_write_85 (fun H locs w_M_6 => ?_)
        rw [← eM_6] at w_M_6
        obtain ⟨v4_3, ev4_3, hf⟩ := lt_some hf
        have hv4_3 : inR v4_3 := inR_of ev4_3 (inR_wrap _)
        refine lv_iinc (v := i2 v4_3) (lv' := [(4, .int (i2 v4_3)), (0, .ref (ad 57)), (1, .ref (ad p1)), (2, .int (i2 v2)), (3, .int (i2 v3))]) hx hb dX0_write_88 hl (k := 4) rfl (by rw [ev4_3]; exact i2_add _ _) (by decide) rfl (fun ls hl => ?_)
        refine lv_goto (tgt := 3) hx hb dX0_write_91 (by decide) ?_
        exact HC v4_3 M_6 _ _ _ (Option.some.inj hf).symm hv4_3 (lv_sub hl [1, 2, 3, 4, 0] rfl) w_M_6
set_option maxRecDepth 100000 in
set_option maxHeartbeats 4000000 in
theorem l_X0_write_3 (X : CX p s m args c cX0_write 5 RX0 D aC ad sg A H0) (p1 : Nat) (hp1 : KD[p1]? = some (.inr (0, aln p1))) (v2 : Int) (hv2 : inR v2) (v3 : Int) (hv3 : inR v3) {out : Int × Mem} (HE : ∀ (y4 : Int) (M1 : Mem) (H : Heap) (locs : List Loc) (ls : Array Slot), out = (y4, M1) → inR y4 → lv_has ls 5 [(0, .ref (ad 57)), (1, .ref (ad p1)), (2, .int (i2 v2)), (3, .int (i2 v3)), (4, .int (i2 y4))] → WS D aC ad A H0 M1 H locs → W p l e rm_X0_write s m args below meth c H locs 0 0 Q (F0 m 94 ls [])) : ∀ (n : Nat) (v4 : Int) (M : Mem), whl (fun s => f_X0_write_s3 p1 v2 v3 s.1 s.2) n (v4, M) = some out → inR v4 → ∀ {H : Heap} {locs : List Loc} {ls : Array Slot}, lv_has ls 5 [(0, .ref (ad 57)), (1, .ref (ad p1)), (2, .int (i2 v2)), (3, .int (i2 v3)), (4, .int (i2 v4))] → WS D aC ad A H0 M H locs → W p l e rm_X0_write s m args below meth c H locs 0 0 Q (F0 m 3 ls []) := by
  intro n
  induction n with
  | zero => intro v4 M hf; exact (whl_zero hf).elim
  | succ n ih =>
    intro v4 M hf hv4 H locs ls hl w
    obtain ⟨o, hf, hk1, hk2⟩ := whl_step hf
    exact b_X0_write_s3 X p1 hp1 v2 hv2 v3 hv3 (fun y4 M1 H locs ls eo hy4 hl w => ih y4 M1 (hk1 _ eo) hy4 hl w) (fun y4 M1 H locs ls eo hy4 hl w => HE y4 M1 H locs ls (hk2 _ eo).symm hy4 hl w) v4 hv4 M hf hl w
set_option maxRecDepth 100000 in
set_option maxHeartbeats 4000000 in
theorem b_X0_write_j94 (X : CX p s m args c cX0_write 5 RX0 D aC ad sg A H0) (p1 : Nat) (hp1 : KD[p1]? = some (.inr (0, aln p1))) {o : Mem} (HR : ∀ (M1 : Mem) (H : Heap) (locs : List Loc) (pc : Nat) (ls : Array Slot), o = M1 → WS D aC ad A H0 M1 H locs → decode cX0_write pc = .ok (.return_, 1) → W p l e rm_X0_write s m args below meth c H locs 0 0 Q (F0 m pc ls [])) (M : Mem) (hf : f_X0_write_j94 p1 M = some o) {H : Heap} {locs : List Loc} {ls : Array Slot} (hl : lv_has ls 5 []) (w : WS D aC ad A H0 M H locs) : W p l e rm_X0_write s m args below meth c H locs 0 0 Q (F0 m 94 ls []) := by
  have hx := X.1.1
  have hb := X.1.2.1
  unfold f_X0_write_j94 at hf
  exact HR M _ _ _ _ (Option.some.inj hf).symm w dX0_write_94
set_option maxRecDepth 100000 in
set_option maxHeartbeats 4000000 in
theorem b_X0_write_0 (X : CX p s m args c cX0_write 5 RX0 D aC ad sg A H0) (p1 : Nat) (hp1 : KD[p1]? = some (.inr (0, aln p1))) {o : Mem} (HR : ∀ (M1 : Mem) (H : Heap) (locs : List Loc) (pc : Nat) (ls : Array Slot), o = M1 → WS D aC ad A H0 M1 H locs → decode cX0_write pc = .ok (.return_, 1) → W p l e rm_X0_write s m args below meth c H locs 0 0 Q (F0 m pc ls [])) (p2 : Int) (hp2 : inR p2) (p3 : Int) (hp3 : inR p3) (M : Mem) (hf : f_X0_write p1 p2 p3 M = some o) {H : Heap} {locs : List Loc} {ls : Array Slot} (hl : lv_has ls 5 [(0, .ref (ad 57)), (1, .ref (ad p1)), (2, .int (i2 p2)), (3, .int (i2 p3))]) (w : WS D aC ad A H0 M H locs) : W p l e rm_X0_write s m args below meth c H locs 0 0 Q (F0 m 0 ls []) := by
  have hx := X.1.1
  have hb := X.1.2.1
  unfold f_X0_write at hf
  refine g_iconst X dX0_write_0 ?_
  refine g_ist (v := 0) (lv' := [(4, .int (i2 0)), (0, .ref (ad 57)), (1, .ref (ad p1)), (2, .int (i2 p2)), (3, .int (i2 p3))]) X rfl dX0_write_1 hl (by decide) rfl (fun ls hl => ?_)
  obtain ⟨q, hq, h1⟩ := obn_some hf
  exact l_X0_write_3 X p1 hp1 p2 hp2 p3 hp3 (out := q) (fun y4 M1 H locs ls eq hy4 hl w => b_X0_write_j94 X p1 hp1 HR M1 (by subst eq; exact h1) (lv_sub hl [] rfl) w)  FU 0 M hq (inL rfl) (lv_sub hl [1, 2, 3, 4, 0] rfl) w
set_option maxRecDepth 100000 in
set_option maxHeartbeats 4000000 in
theorem k_X0_write {l : Launch} {D : va_G} {aC : Nat → ClassId} {ad : Nat → Nat} {sg : SG} (hi : Inj ad) (p1 : Nat) (hp1 : KD[p1]? = some (.inr (0, aln p1))) (p2 : Int) (hp2 : inR p2) (p3 : Int) (hp3 : inR p3) {M : Mem} (hM : inM M) {M' : Mem} (hf : f_X0_write p1 p2 p3 M = some M') : MetV l D aC ad sg yX0_write cX0_write 5 rm_X0_write 0 0 [.ref (ad 57), .ref (ad p1), .int (i2 p2), .int (i2 p3)] M M' := by
  refine MetV.of (by decide +kernel) (nle rfl) hi hM (fun p e s m args below meth c Q H0 ls X hl w hret => ?_)
  exact b_X0_write_0 X p1 hp1 (fun M1 H locs pc ls eo w dg => by cases eo; exact hret H locs pc ls w dg) p2 hp2 p3 hp3 M hf hl w
set_option maxRecDepth 100000 in
set_option maxHeartbeats 4000000 in
theorem b_X0_seatAt_s5 (X : CX p s m args c cX0_seatAt 5 RX0 D aC ad sg A H0) (v1 : Int) (hv1 : inR v1) (v2 : Int) (hv2 : inR v2) {M : Mem} {o : (Int × Int) ⊕ (Int × Int)} (HC : ∀ (y3 : Int) (y4 : Int) (H : Heap) (locs : List Loc) (ls : Array Slot), o = .inl (y3, y4) → inR y3 → inR y4 → lv_has ls 5 [(0, .ref (ad 57)), (1, .int (i2 v1)), (2, .int (i2 v2)), (3, .int (i2 y3)), (4, .int (i2 y4))] → WS D aC ad A H0 M H locs → W p l e rm_X0_seatAt s m args below meth c H locs 0 0 Q (F0 m 5 ls [])) (HE : ∀ (y3 : Int) (y4 : Int) (H : Heap) (locs : List Loc) (ls : Array Slot), o = .inr (y3, y4) → inR y3 → inR y4 → lv_has ls 5 [(0, .ref (ad 57)), (1, .int (i2 v1)), (2, .int (i2 v2)), (3, .int (i2 y3)), (4, .int (i2 y4))] → WS D aC ad A H0 M H locs → W p l e rm_X0_seatAt s m args below meth c H locs 0 0 Q (F0 m 50 ls [])) (v3 : Int) (hv3 : inR v3) (v4 : Int) (hv4 : inR v4) (hf : f_X0_seatAt_s5 v1 v2 M v3 v4 = some o) {H : Heap} {locs : List Loc} {ls : Array Slot} (hl : lv_has ls 5 [(0, .ref (ad 57)), (1, .int (i2 v1)), (2, .int (i2 v2)), (3, .int (i2 v3)), (4, .int (i2 v4))]) (w : WS D aC ad A H0 M H locs) : W p l e rm_X0_seatAt s m args below meth c H locs 0 0 Q (F0 m 5 ls []) := by
  have hx := X.1.1
  have hb := X.1.2.1
  unfold f_X0_seatAt_s5 at hf
  refine lv_iload hx hb dX0_seatAt_5 (lv_at hl 4 rfl) ?_
  refine lv_aload_n hx hb dX0_seatAt_7 rfl (lv_at hl 0 rfl) ?_
  refine g_geti X w fg_X0_30 KD_57 FR_57_0 dX0_seatAt_8 ?_
  refine g_icmp_ge (tgt := 50) X hv4 (w.2.2 _ _) dX0_seatAt_11 (by decide) (fun cd => ?_) (fun cd => ?_)
  · replace hf := ite_t cd hf
    exact HE v3 v4 _ _ _ (Option.some.inj hf).symm hv3 hv4 hl w
  · replace hf := ite_f cd hf
    refine lv_aload_n hx hb dX0_seatAt_14 rfl (lv_at hl 0 rfl) ?_
    refine g_getr X w fg_X0_11 KD_57 FR_57_1 dX0_seatAt_15 ?_
    refine lv_iload hx hb dX0_seatAt_18 (lv_at hl 4 rfl) ?_
    obtain ⟨hg, hf⟩ := gd_some hf
    refine g_iald X w KD_58 hv4 hg dX0_seatAt_20 ?_
    refine lv_iload_n hx hb dX0_seatAt_21 rfl (lv_at hl 1 rfl) ?_
    refine g_icmp_ne (tgt := 44) X (w.2.2 _ _) hv1 dX0_seatAt_22 (by decide) (fun cd_2 => ?_) (fun cd_2 => ?_)
    · replace hf := ite_f cd_2 hf
      obtain ⟨v4_2, ev4_2, hf⟩ := lt_some hf
      have hv4_2 : inR v4_2 := inR_of ev4_2 (inR_wrap _)
      refine lv_iinc (v := i2 v4_2) (lv' := [(4, .int (i2 v4_2)), (0, .ref (ad 57)), (1, .int (i2 v1)), (2, .int (i2 v2)), (3, .int (i2 v3))]) hx hb dX0_seatAt_44 hl (k := 4) rfl (by rw [ev4_2]; exact i2_add _ _) (by decide) rfl (fun ls hl => ?_)
      refine lv_goto (tgt := 5) hx hb dX0_seatAt_47 (by decide) ?_
      exact HC v3 v4_2 _ _ _ (Option.some.inj hf).symm hv3 hv4_2 (lv_sub hl [1, 2, 3, 4, 0] rfl) w
    · replace hf := ite_t cd_2 hf
      refine lv_aload_n hx hb dX0_seatAt_25 rfl (lv_at hl 0 rfl) ?_
      refine g_getr X w fg_X0_18 KD_57 FR_57_3 dX0_seatAt_26 ?_
      refine lv_iload hx hb dX0_seatAt_29 (lv_at hl 4 rfl) ?_
      obtain ⟨hg_2, hf⟩ := gd_some hf
      refine g_iald X w KD_60 hv4 hg_2 dX0_seatAt_31 ?_
      refine lv_iload_n hx hb dX0_seatAt_32 rfl (lv_at hl 2 rfl) ?_
      refine g_icmp_gt (tgt := 44) X (w.2.2 _ _) hv2 dX0_seatAt_33 (by decide) (fun cd_3 => ?_) (fun cd_3 => ?_)
      · replace hf := ite_t cd_3 hf
        obtain ⟨v4_3, ev4_3, hf⟩ := lt_some hf
        have hv4_3 : inR v4_3 := inR_of ev4_3 (inR_wrap _)
        refine lv_iinc (v := i2 v4_3) (lv' := [(4, .int (i2 v4_3)), (0, .ref (ad 57)), (1, .int (i2 v1)), (2, .int (i2 v2)), (3, .int (i2 v3))]) hx hb dX0_seatAt_44 hl (k := 4) rfl (by rw [ev4_3]; exact i2_add _ _) (by decide) rfl (fun ls hl => ?_)
        refine lv_goto (tgt := 5) hx hb dX0_seatAt_47 (by decide) ?_
        exact HC v3 v4_3 _ _ _ (Option.some.inj hf).symm hv3 hv4_3 (lv_sub hl [1, 2, 3, 4, 0] rfl) w
      · replace hf := ite_f cd_3 hf
        refine lv_aload_n hx hb dX0_seatAt_36 rfl (lv_at hl 0 rfl) ?_
        refine g_getr X w fg_X0_15 KD_57 FR_57_2 dX0_seatAt_37 ?_
        refine lv_iload hx hb dX0_seatAt_40 (lv_at hl 4 rfl) ?_
        obtain ⟨hg_3, hf⟩ := gd_some hf
        refine g_iald X w KD_59 hv4 hg_3 dX0_seatAt_42 ?_
        obtain ⟨v3_2, ev3_2, hf⟩ := lt_some hf
        have hv3_2 : inR v3_2 := inR_of ev3_2 (w.2.2 _ _)
        refine g_istn (v := v3_2) (lv' := [(3, .int (i2 v3_2)), (0, .ref (ad 57)), (1, .int (i2 v1)), (2, .int (i2 v2)), (4, .int (i2 v4))]) X ev3_2 dX0_seatAt_43 rfl hl (by decide) rfl (fun ls hl => ?_)
        obtain ⟨v4_4, ev4_4, hf⟩ := lt_some hf
        have hv4_4 : inR v4_4 := inR_of ev4_4 (inR_wrap _)
        refine lv_iinc (v := i2 v4_4) (lv' := [(4, .int (i2 v4_4)), (3, .int (i2 v3_2)), (0, .ref (ad 57)), (1, .int (i2 v1)), (2, .int (i2 v2))]) hx hb dX0_seatAt_44 hl (k := 4) rfl (by rw [ev4_4]; exact i2_add _ _) (by decide) rfl (fun ls hl => ?_)
        refine lv_goto (tgt := 5) hx hb dX0_seatAt_47 (by decide) ?_
        exact HC v3_2 v4_4 _ _ _ (Option.some.inj hf).symm hv3_2 hv4_4 (lv_sub hl [2, 3, 4, 1, 0] rfl) w
set_option maxRecDepth 100000 in
set_option maxHeartbeats 4000000 in
theorem l_X0_seatAt_5 (X : CX p s m args c cX0_seatAt 5 RX0 D aC ad sg A H0) (v1 : Int) (hv1 : inR v1) (v2 : Int) (hv2 : inR v2) {M : Mem} {out : Int × Int} (HE : ∀ (y3 : Int) (y4 : Int) (H : Heap) (locs : List Loc) (ls : Array Slot), out = (y3, y4) → inR y3 → inR y4 → lv_has ls 5 [(0, .ref (ad 57)), (1, .int (i2 v1)), (2, .int (i2 v2)), (3, .int (i2 y3)), (4, .int (i2 y4))] → WS D aC ad A H0 M H locs → W p l e rm_X0_seatAt s m args below meth c H locs 0 0 Q (F0 m 50 ls [])) : ∀ (n : Nat) (v3 : Int) (v4 : Int), whl (fun s => f_X0_seatAt_s5 v1 v2 M s.1 s.2) n (v3, v4) = some out → inR v3 → inR v4 → ∀ {H : Heap} {locs : List Loc} {ls : Array Slot}, lv_has ls 5 [(0, .ref (ad 57)), (1, .int (i2 v1)), (2, .int (i2 v2)), (3, .int (i2 v3)), (4, .int (i2 v4))] → WS D aC ad A H0 M H locs → W p l e rm_X0_seatAt s m args below meth c H locs 0 0 Q (F0 m 5 ls []) := by
  intro n
  induction n with
  | zero => intro v3 v4 hf; exact (whl_zero hf).elim
  | succ n ih =>
    intro v3 v4 hf hv3 hv4 H locs ls hl w
    obtain ⟨o, hf, hk1, hk2⟩ := whl_step hf
    exact b_X0_seatAt_s5 X v1 hv1 v2 hv2 (fun y3 y4 H locs ls eo hy3 hy4 hl w => ih y3 y4 (hk1 _ eo) hy3 hy4 hl w) (fun y3 y4 H locs ls eo hy3 hy4 hl w => HE y3 y4 H locs ls (hk2 _ eo).symm hy3 hy4 hl w) v3 hv3 v4 hv4 hf hl w
set_option maxRecDepth 100000 in
set_option maxHeartbeats 4000000 in
theorem b_X0_seatAt_j50 (X : CX p s m args c cX0_seatAt 5 RX0 D aC ad sg A H0) {M : Mem} {o : Int} (HR : ∀ (r : Int) (H : Heap) (locs : List Loc) (pc : Nat) (ls : Array Slot), o = r → inR r → WS D aC ad A H0 M H locs → decode cX0_seatAt pc = .ok (.ireturn, 1) → W p l e rm_X0_seatAt s m args below meth c H locs 0 0 Q (F0 m pc ls [.int (i2 r)])) (v3 : Int) (hv3 : inR v3) (hf : f_X0_seatAt_j50 v3 M = some o) {H : Heap} {locs : List Loc} {ls : Array Slot} (hl : lv_has ls 5 [(3, .int (i2 v3))]) (w : WS D aC ad A H0 M H locs) : W p l e rm_X0_seatAt s m args below meth c H locs 0 0 Q (F0 m 50 ls []) := by
  have hx := X.1.1
  have hb := X.1.2.1
  unfold f_X0_seatAt_j50 at hf
  refine lv_iload_n hx hb dX0_seatAt_50 rfl (lv_at hl 0 rfl) ?_
  exact HR v3 _ _ _ _ (Option.some.inj hf).symm hv3 w dX0_seatAt_51
set_option maxRecDepth 100000 in
set_option maxHeartbeats 4000000 in
theorem b_X0_seatAt_0 (X : CX p s m args c cX0_seatAt 5 RX0 D aC ad sg A H0) {M : Mem} {o : Int} (HR : ∀ (r : Int) (H : Heap) (locs : List Loc) (pc : Nat) (ls : Array Slot), o = r → inR r → WS D aC ad A H0 M H locs → decode cX0_seatAt pc = .ok (.ireturn, 1) → W p l e rm_X0_seatAt s m args below meth c H locs 0 0 Q (F0 m pc ls [.int (i2 r)])) (p1 : Int) (hp1 : inR p1) (p2 : Int) (hp2 : inR p2) (hf : f_X0_seatAt p1 p2 M = some o) {H : Heap} {locs : List Loc} {ls : Array Slot} (hl : lv_has ls 5 [(0, .ref (ad 57)), (1, .int (i2 p1)), (2, .int (i2 p2))]) (w : WS D aC ad A H0 M H locs) : W p l e rm_X0_seatAt s m args below meth c H locs 0 0 Q (F0 m 0 ls []) := by
  have hx := X.1.1
  have hb := X.1.2.1
  unfold f_X0_seatAt at hf
  refine g_iconst X dX0_seatAt_0 ?_
  refine g_istn (v := (-1)) (lv' := [(3, .int (i2 (-1))), (0, .ref (ad 57)), (1, .int (i2 p1)), (2, .int (i2 p2))]) X rfl dX0_seatAt_1 rfl hl (by decide) rfl (fun ls hl => ?_)
  refine g_iconst X dX0_seatAt_2 ?_
  refine g_ist (v := 0) (lv' := [(4, .int (i2 0)), (3, .int (i2 (-1))), (0, .ref (ad 57)), (1, .int (i2 p1)), (2, .int (i2 p2))]) X rfl dX0_seatAt_3 hl (by decide) rfl (fun ls hl => ?_)
  obtain ⟨q, hq, h1⟩ := obn_some hf
  exact l_X0_seatAt_5 X p1 hp1 p2 hp2 (out := q) (fun y3 y4 H locs ls eq hy3 hy4 hl w => b_X0_seatAt_j50 X  HR y3 hy3 (by subst eq; exact h1) (lv_sub hl [3] rfl) w)  FU (-1) 0 hq (inL rfl) (inL rfl) (lv_sub hl [2, 3, 4, 1, 0] rfl) w
set_option maxRecDepth 100000 in
set_option maxHeartbeats 4000000 in
theorem k_X0_seatAt {l : Launch} {D : va_G} {aC : Nat → ClassId} {ad : Nat → Nat} {sg : SG} (hi : Inj ad) (p1 : Int) (hp1 : inR p1) (p2 : Int) (hp2 : inR p2) {M : Mem} (hM : inM M) {r : Int} (hf : f_X0_seatAt p1 p2 M = some r) : MetI l D aC ad sg yX0_seatAt cX0_seatAt 5 (some .int) rm_X0_seatAt 0 0 [.ref (ad 57), .int (i2 p1), .int (i2 p2)] M r M := by
  refine MetI.ofI (by decide +kernel) (nle rfl) hi hM (fun p e s m args below meth c Q H0 ls X hl w hret => ?_)
  exact b_X0_seatAt_0 X  (fun r1 H locs pc ls eo hP w dg => by cases eo; exact hret H locs pc ls hP w dg) p1 hp1 p2 hp2 hf hl w
end
section
variable {p : Program} {l : Launch} {e : Env} {s : State} {m : MethodId} {args : Array Value} {below : List Frame} {meth : Method} {c : Code} {Q : State → Prop} {D : va_G} {aC : Nat → ClassId} {ad : Nat → Nat} {sg : SG} {A : Nat → Prop} {H0 : Heap}
set_option maxRecDepth 100000 in
set_option maxHeartbeats 4000000 in
theorem b_X3_add_0 (X : CX p s m args c cX3_add 2 RX3 D aC ad sg A H0) {o : Int × Mem} (HR : ∀ (r : Int) (M1 : Mem) (H : Heap) (locs : List Loc) (pc : Nat) (ls : Array Slot), o = (r, M1) → inR r → WS D aC ad A H0 M1 H locs → decode cX3_add pc = .ok (.ireturn, 1) → W p l e rm_X3_add s m args below meth c H locs 0 0 Q (F0 m pc ls [.int (i2 r)])) (p1 : Int) (hp1 : inR p1) (M : Mem) (hf : f_X3_add p1 M = some o) {H : Heap} {locs : List Loc} {ls : Array Slot} (hl : lv_has ls 2 [(0, .ref (ad 51)), (1, .int (i2 p1))]) (w : WS D aC ad A H0 M H locs) : W p l e rm_X3_add s m args below meth c H locs 0 0 Q (F0 m 0 ls []) := by
  have hx := X.1.1
  have hb := X.1.2.1
  unfold f_X3_add at hf
  refine lv_aload_n hx hb dX3_add_0 rfl (lv_at hl 0 rfl) ?_
  refine g_geti X w fg_X3_27 KD_51 FR_51_0 dX3_add_1 ?_
  refine g_bipush X dX3_add_4 (by decide) ?_
  refine g_icmp_lt (tgt := 11) X (w.2.2 _ _) (inL rfl) dX3_add_6 (by decide) (fun cd => ?_) (fun cd => ?_)
  · replace hf := ite_t cd hf
    refine lv_aload_n hx hb dX3_add_11 rfl (lv_at hl 0 rfl) ?_
    refine g_getr X w fg_X3_11 KD_51 FR_51_1 dX3_add_12 ?_
    refine lv_aload_n hx hb dX3_add_15 rfl (lv_at hl 0 rfl) ?_
    refine g_geti X w fg_X3_27 KD_51 FR_51_0 dX3_add_16 ?_
    refine lv_iload_n hx hb dX3_add_19 rfl (lv_at hl 1 rfl) ?_
    obtain ⟨hg, hf⟩ := gd_some hf
    obtain ⟨M_2, eM_2, hf⟩ := lt_some hf
    refine g_iast X w KD_52 (w.2.2 _ _) hg hp1 dX3_add_20 (fun H locs w_M_2 => ?_)
    rw [← eM_2] at w_M_2
    refine lv_aload_n hx hb dX3_add_21 rfl (lv_at hl 0 rfl) ?_
    refine lv_dup hx hb dX3_add_22 rfl ?_
    refine g_geti X w_M_2 fg_X3_27 KD_51 FR_51_0 dX3_add_23 ?_
    refine g_iconst X dX3_add_26 ?_
    refine g_iadd X dX3_add_27 ?_
    obtain ⟨M_3, eM_3, hf⟩ := lt_some hf
    refine g_puti X w_M_2 fp_X3_27 KD_51 FR_51_0 (inR_wrap _) dX3_add_28 (fun H locs w_M_3 => ?_)
    rw [← eM_3] at w_M_3
    refine lv_aload_n hx hb dX3_add_31 rfl (lv_at hl 0 rfl) ?_
    refine g_geti X w_M_3 fg_X3_27 KD_51 FR_51_0 dX3_add_32 ?_
    refine g_iconst X dX3_add_35 ?_
    refine g_isub X dX3_add_36 ?_
    exact HR (wrap ((M_3 51 0) - 1)) M_3 _ _ _ _ (Option.some.inj hf).symm (inR_wrap _) w_M_3 dX3_add_37
  · replace hf := ite_f cd hf
    refine g_iconst X dX3_add_9 ?_
    exact HR (-1) M _ _ _ _ (Option.some.inj hf).symm (inL rfl) w dX3_add_10
set_option maxRecDepth 100000 in
set_option maxHeartbeats 4000000 in
theorem k_X3_add {l : Launch} {D : va_G} {aC : Nat → ClassId} {ad : Nat → Nat} {sg : SG} (hi : Inj ad) (p1 : Int) (hp1 : inR p1) {M : Mem} (hM : inM M) {r : Int} {M' : Mem} (hf : f_X3_add p1 M = some (r, M')) : MetI l D aC ad sg yX3_add cX3_add 2 (some .int) rm_X3_add 0 0 [.ref (ad 51), .int (i2 p1)] M r M' := by
  refine MetI.ofI (by decide +kernel) (nle rfl) hi hM (fun p e s m args below meth c Q H0 ls X hl w hret => ?_)
  exact b_X3_add_0 X  (fun r1 M1 H locs pc ls eo hP w dg => by cases eo; exact hret H locs pc ls hP w dg) p1 hp1 M hf hl w
set_option maxRecDepth 100000 in
set_option maxHeartbeats 4000000 in
theorem b_X3_clear_0 (X : CX p s m args c cX3_clear 1 RX3 D aC ad sg A H0) {o : Mem} (HR : ∀ (M1 : Mem) (H : Heap) (locs : List Loc) (pc : Nat) (ls : Array Slot), o = M1 → WS D aC ad A H0 M1 H locs → decode cX3_clear pc = .ok (.return_, 1) → W p l e rm_X3_clear s m args below meth c H locs 0 0 Q (F0 m pc ls [])) (M : Mem) (hf : f_X3_clear M = some o) {H : Heap} {locs : List Loc} {ls : Array Slot} (hl : lv_has ls 1 [(0, .ref (ad 51))]) (w : WS D aC ad A H0 M H locs) : W p l e rm_X3_clear s m args below meth c H locs 0 0 Q (F0 m 0 ls []) := by
  have hx := X.1.1
  have hb := X.1.2.1
  unfold f_X3_clear at hf
  refine lv_aload_n hx hb dX3_clear_0 rfl (lv_at hl 0 rfl) ?_
  refine g_getr X w fg_X3_15 KD_51 FR_51_2 dX3_clear_1 ?_
  refine g_iconst X dX3_clear_4 ?_
  obtain ⟨M_2, hc, hf⟩ := obn_some hf
  refine g_csv (As := [.ref (ad 53), .int (i2 0)]) (rest := []) X w (k_J7_fill_53178 X.2.2.1 53 KA_53 0 (inL rfl) w.2.2 hc) lk_X3_31 ⟨rfl, rfl⟩ ⟨nle rfl, nle rfl⟩ ⟨nle rfl, nle rfl⟩ hl.1 rfl (nle rfl) dX3_clear_5 (fun H locs w_M_2 => ?_)
  exact HR M_2 _ _ _ _ (Option.some.inj hf).symm w_M_2 dX3_clear_8
set_option maxRecDepth 100000 in
set_option maxHeartbeats 4000000 in
theorem k_X3_clear {l : Launch} {D : va_G} {aC : Nat → ClassId} {ad : Nat → Nat} {sg : SG} (hi : Inj ad)  {M : Mem} (hM : inM M) {M' : Mem} (hf : f_X3_clear M = some M') : MetV l D aC ad sg yX3_clear cX3_clear 1 rm_X3_clear 0 0 [.ref (ad 51)] M M' := by
  refine MetV.of (by decide +kernel) (nle rfl) hi hM (fun p e s m args below meth c Q H0 ls X hl w hret => ?_)
  exact b_X3_clear_0 X  (fun M1 H locs pc ls eo w dg => by cases eo; exact hret H locs pc ls w dg) M hf hl w
set_option maxRecDepth 100000 in
set_option maxHeartbeats 4000000 in
theorem b_X3_addNeed_0 (X : CX p s m args c cX3_addNeed 3 RX3 D aC ad sg A H0) {o : Mem} (HR : ∀ (M1 : Mem) (H : Heap) (locs : List Loc) (pc : Nat) (ls : Array Slot), o = M1 → WS D aC ad A H0 M1 H locs → decode cX3_addNeed pc = .ok (.return_, 1) → W p l e rm_X3_addNeed s m args below meth c H locs 0 0 Q (F0 m pc ls [])) (p1 : Int) (hp1 : inR p1) (p2 : Int) (hp2 : inR p2) (M : Mem) (hf : f_X3_addNeed p1 p2 M = some o) {H : Heap} {locs : List Loc} {ls : Array Slot} (hl : lv_has ls 3 [(0, .ref (ad 51)), (1, .int (i2 p1)), (2, .int (i2 p2))]) (w : WS D aC ad A H0 M H locs) : W p l e rm_X3_addNeed s m args below meth c H locs 0 0 Q (F0 m 0 ls []) := by
  have hx := X.1.1
  have hb := X.1.2.1
  unfold f_X3_addNeed at hf
  refine lv_iload_n hx hb dX3_addNeed_0 rfl (lv_at hl 1 rfl) ?_
  refine g_if_lt (tgt := 19) X hp1 dX3_addNeed_1 (by decide) (fun cd => ?_) (fun cd => ?_)
  · replace hf := ite_t cd hf
    exact HR M _ _ _ _ (Option.some.inj hf).symm w dX3_addNeed_19
  · replace hf := ite_f cd hf
    refine lv_iload_n hx hb dX3_addNeed_4 rfl (lv_at hl 1 rfl) ?_
    refine g_iconst X dX3_addNeed_5 ?_
    refine g_icmp_ge (tgt := 19) X hp1 (inL rfl) dX3_addNeed_6 (by decide) (fun cd_2 => ?_) (fun cd_2 => ?_)
    · replace hf := ite_t cd_2 hf
      exact HR M _ _ _ _ (Option.some.inj hf).symm w dX3_addNeed_19
    · replace hf := ite_f cd_2 hf
      refine lv_aload_n hx hb dX3_addNeed_9 rfl (lv_at hl 0 rfl) ?_
      refine g_getr X w fg_X3_15 KD_51 FR_51_2 dX3_addNeed_10 ?_
      refine lv_iload_n hx hb dX3_addNeed_13 rfl (lv_at hl 1 rfl) ?_
      refine lv_dup2_11 hx hb dX3_addNeed_14 rfl rfl ?_
      obtain ⟨hg, hf⟩ := gd_some hf
      refine g_iald X w KD_53 hp1 hg dX3_addNeed_15 ?_
      refine lv_iload_n hx hb dX3_addNeed_16 rfl (lv_at hl 2 rfl) ?_
      refine g_iadd X dX3_addNeed_17 ?_
      obtain ⟨hg_2, hf⟩ := gd_some hf
      obtain ⟨M_2, eM_2, hf⟩ := lt_some hf
      refine g_iast X w KD_53 hp1 hg_2 (inR_wrap _) dX3_addNeed_18 (fun H locs w_M_2 => ?_)
      rw [← eM_2] at w_M_2
      exact HR M_2 _ _ _ _ (Option.some.inj hf).symm w_M_2 dX3_addNeed_19
set_option maxRecDepth 100000 in
set_option maxHeartbeats 4000000 in
theorem k_X3_addNeed {l : Launch} {D : va_G} {aC : Nat → ClassId} {ad : Nat → Nat} {sg : SG} (hi : Inj ad) (p1 : Int) (hp1 : inR p1) (p2 : Int) (hp2 : inR p2) {M : Mem} (hM : inM M) {M' : Mem} (hf : f_X3_addNeed p1 p2 M = some M') : MetV l D aC ad sg yX3_addNeed cX3_addNeed 3 rm_X3_addNeed 0 0 [.ref (ad 51), .int (i2 p1), .int (i2 p2)] M M' := by
  refine MetV.of (by decide +kernel) (nle rfl) hi hM (fun p e s m args below meth c Q H0 ls X hl w hret => ?_)
  exact b_X3_addNeed_0 X  (fun M1 H locs pc ls eo w dg => by cases eo; exact hret H locs pc ls w dg) p1 hp1 p2 hp2 M hf hl w
set_option maxRecDepth 100000 in
set_option maxHeartbeats 4000000 in
theorem b_X3_lackOfWay_s24 (X : CX p s m args c cX3_lackOfWay 6 RX3 D aC ad sg A H0) (v2 : Int) (hv2 : inR v2) {o : (Int × Int × Mem) ⊕ (Int × Int × Mem)} (HC : ∀ (y3 : Int) (y4 : Int) (M1 : Mem) (H : Heap) (locs : List Loc) (ls : Array Slot), o = .inl (y3, y4, M1) → inR y3 → inR y4 → lv_has ls 6 [(0, .ref (ad 51)), (2, .int (i2 v2)), (3, .int (i2 y3)), (4, .int (i2 y4))] → WS D aC ad A H0 M1 H locs → W p l e rm_X3_lackOfWay s m args below meth c H locs 0 0 Q (F0 m 24 ls [])) (HE : ∀ (y3 : Int) (y4 : Int) (M1 : Mem) (H : Heap) (locs : List Loc) (ls : Array Slot), o = .inr (y3, y4, M1) → inR y3 → inR y4 → lv_has ls 6 [(0, .ref (ad 51)), (2, .int (i2 v2)), (3, .int (i2 y3)), (4, .int (i2 y4))] → WS D aC ad A H0 M1 H locs → W p l e rm_X3_lackOfWay s m args below meth c H locs 0 0 Q (F0 m 74 ls [])) (v3 : Int) (hv3 : inR v3) (v4 : Int) (hv4 : inR v4) (M : Mem) (hf : f_X3_lackOfWay_s24 v2 v3 v4 M = some o) {H : Heap} {locs : List Loc} {ls : Array Slot} (hl : lv_has ls 6 [(0, .ref (ad 51)), (2, .int (i2 v2)), (3, .int (i2 v3)), (4, .int (i2 v4))]) (w : WS D aC ad A H0 M H locs) : W p l e rm_X3_lackOfWay s m args below meth c H locs 0 0 Q (F0 m 24 ls []) := by
  have hx := X.1.1
  have hb := X.1.2.1
  unfold f_X3_lackOfWay_s24 at hf
  refine lv_iload hx hb dX3_lackOfWay_24 (lv_at hl 3 rfl) ?_
  refine g_if_lt (tgt := 74) X hv4 dX3_lackOfWay_26 (by decide) (fun cd => ?_) (fun cd => ?_)
  · replace hf := ite_t cd hf
    exact HE v3 v4 M _ _ _ (Option.some.inj hf).symm hv3 hv4 hl w
  · replace hf := ite_f cd hf
    refine lv_iload_n hx hb dX3_lackOfWay_29 rfl (lv_at hl 1 rfl) ?_
    refine g_if_le (tgt := 74) X hv2 dX3_lackOfWay_30 (by decide) (fun cd_2 => ?_) (fun cd_2 => ?_)
    · replace hf := ite_t cd_2 hf
      exact HE v3 v4 M _ _ _ (Option.some.inj hf).symm hv3 hv4 hl w
    · replace hf := ite_f cd_2 hf
      refine lv_iload_n hx hb dX3_lackOfWay_33 rfl (lv_at hl 2 rfl) ?_
      refine lv_iload_n hx hb dX3_lackOfWay_34 rfl (lv_at hl 1 rfl) ?_
      obtain ⟨hg, hf⟩ := gd_some hf
      refine g_irem X hv2 hg dX3_lackOfWay_35 ?_
      obtain ⟨v5, ev5, hf⟩ := lt_some hf
      have hv5 : inR v5 := inR_of ev5 (inR_toInt _)
      refine g_ist (v := v5) (lv' := [(5, .int (i2 v5)), (0, .ref (ad 51)), (2, .int (i2 v2)), (3, .int (i2 v3)), (4, .int (i2 v4))]) X ev5 dX3_lackOfWay_36 hl (by decide) rfl (fun ls hl => ?_)
      refine lv_iload_n hx hb dX3_lackOfWay_38 rfl (lv_at hl 3 rfl) ?_
      refine lv_iload_n hx hb dX3_lackOfWay_39 rfl (lv_at hl 2 rfl) ?_
      obtain ⟨hg_2, hf⟩ := gd_some hf
      refine g_idiv X hv2 hg_2 dX3_lackOfWay_40 ?_
      obtain ⟨v3_2, ev3_2, hf⟩ := lt_some hf
      have hv3_2 : inR v3_2 := inR_of ev3_2 (inR_toInt _)
      refine g_istn (v := v3_2) (lv' := [(3, .int (i2 v3_2)), (5, .int (i2 v5)), (0, .ref (ad 51)), (2, .int (i2 v2)), (4, .int (i2 v4))]) X ev3_2 dX3_lackOfWay_41 rfl hl (by decide) rfl (fun ls hl => ?_)
      refine lv_aload_n hx hb dX3_lackOfWay_42 rfl (lv_at hl 2 rfl) ?_
      refine g_getr X w fg_X3_21 KD_51 FR_51_4 dX3_lackOfWay_43 ?_
      refine lv_iload hx hb dX3_lackOfWay_46 (lv_at hl 4 rfl) ?_
      refine lv_iload hx hb dX3_lackOfWay_48 (lv_at hl 1 rfl) ?_
      obtain ⟨hg_3, hf⟩ := gd_some hf
      obtain ⟨M_2, eM_2, hf⟩ := lt_some hf
      refine g_iast X w KD_55 hv4 hg_3 hv5 dX3_lackOfWay_50 (fun H locs w_M_2 => ?_)
      rw [← eM_2] at w_M_2
      refine lv_aload_n hx hb dX3_lackOfWay_51 rfl (lv_at hl 2 rfl) ?_
      refine g_getr X w_M_2 fg_X3_18 KD_51 FR_51_3 dX3_lackOfWay_52 ?_
      refine lv_iload hx hb dX3_lackOfWay_55 (lv_at hl 1 rfl) ?_
      refine lv_dup2_11 hx hb dX3_lackOfWay_57 rfl rfl ?_
      obtain ⟨hg_4, hf⟩ := gd_some hf
      refine g_iald X w_M_2 KD_54 hv5 hg_4 dX3_lackOfWay_58 ?_
      refine lv_aload_n hx hb dX3_lackOfWay_59 rfl (lv_at hl 2 rfl) ?_
      refine g_getr X w_M_2 fg_X3_11 KD_51 FR_51_1 dX3_lackOfWay_60 ?_
      refine lv_iload hx hb dX3_lackOfWay_63 (lv_at hl 4 rfl) ?_
      obtain ⟨hg_5, hf⟩ := gd_some hf
      refine g_iald X w_M_2 KD_52 hv4 hg_5 dX3_lackOfWay_65 ?_
      refine g_isub X dX3_lackOfWay_66 ?_
      obtain ⟨hg_6, hf⟩ := gd_some hf
      obtain ⟨M_3, eM_3, hf⟩ := lt_some hf
      refine g_iast X w_M_2 KD_54 hv5 hg_6 (inR_wrap _) dX3_lackOfWay_67 (fun H locs w_M_3 => ?_)
      rw [← eM_3] at w_M_3
      obtain ⟨v4_2, ev4_2, hf⟩ := lt_some hf
      have hv4_2 : inR v4_2 := inR_of ev4_2 (inR_wrap _)
      refine lv_iinc (v := i2 v4_2) (lv' := [(4, .int (i2 v4_2)), (3, .int (i2 v3_2)), (5, .int (i2 v5)), (0, .ref (ad 51)), (2, .int (i2 v2))]) hx hb dX3_lackOfWay_68 hl (k := 4) rfl (by rw [ev4_2]; exact i2_add _ _) (by decide) rfl (fun ls hl => ?_)
      refine lv_goto (tgt := 24) hx hb dX3_lackOfWay_71 (by decide) ?_
      exact HC v3_2 v4_2 M_3 _ _ _ (Option.some.inj hf).symm hv3_2 hv4_2 (lv_sub hl [3, 4, 1, 0] rfl) w_M_3
set_option maxRecDepth 100000 in
set_option maxHeartbeats 4000000 in
theorem l_X3_lackOfWay_24 (X : CX p s m args c cX3_lackOfWay 6 RX3 D aC ad sg A H0) (v2 : Int) (hv2 : inR v2) {out : Int × Int × Mem} (HE : ∀ (y3 : Int) (y4 : Int) (M1 : Mem) (H : Heap) (locs : List Loc) (ls : Array Slot), out = (y3, y4, M1) → inR y3 → inR y4 → lv_has ls 6 [(0, .ref (ad 51)), (2, .int (i2 v2)), (3, .int (i2 y3)), (4, .int (i2 y4))] → WS D aC ad A H0 M1 H locs → W p l e rm_X3_lackOfWay s m args below meth c H locs 0 0 Q (F0 m 74 ls [])) : ∀ (n : Nat) (v3 : Int) (v4 : Int) (M : Mem), whl (fun s => f_X3_lackOfWay_s24 v2 s.1 s.2.1 s.2.2) n (v3, v4, M) = some out → inR v3 → inR v4 → ∀ {H : Heap} {locs : List Loc} {ls : Array Slot}, lv_has ls 6 [(0, .ref (ad 51)), (2, .int (i2 v2)), (3, .int (i2 v3)), (4, .int (i2 v4))] → WS D aC ad A H0 M H locs → W p l e rm_X3_lackOfWay s m args below meth c H locs 0 0 Q (F0 m 24 ls []) := by
  intro n
  induction n with
  | zero => intro v3 v4 M hf; exact (whl_zero hf).elim
  | succ n ih =>
    intro v3 v4 M hf hv3 hv4 H locs ls hl w
    obtain ⟨o, hf, hk1, hk2⟩ := whl_step hf
    exact b_X3_lackOfWay_s24 X v2 hv2 (fun y3 y4 M1 H locs ls eo hy3 hy4 hl w => ih y3 y4 M1 (hk1 _ eo) hy3 hy4 hl w) (fun y3 y4 M1 H locs ls eo hy3 hy4 hl w => HE y3 y4 M1 H locs ls (hk2 _ eo).symm hy3 hy4 hl w) v3 hv3 v4 hv4 M hf hl w
set_option maxRecDepth 100000 in
set_option maxHeartbeats 4000000 in
theorem b_X3_lackOfWay_s80 (X : CX p s m args c cX3_lackOfWay 6 RX3 D aC ad sg A H0) {M : Mem} {o : (Int × Int) ⊕ (Int × Int)} (HC : ∀ (y4 : Int) (y5 : Int) (H : Heap) (locs : List Loc) (ls : Array Slot), o = .inl (y4, y5) → inR y4 → inR y5 → lv_has ls 6 [(0, .ref (ad 51)), (4, .int (i2 y4)), (5, .int (i2 y5))] → WS D aC ad A H0 M H locs → W p l e rm_X3_lackOfWay s m args below meth c H locs 0 0 Q (F0 m 80 ls [])) (HE : ∀ (y4 : Int) (y5 : Int) (H : Heap) (locs : List Loc) (ls : Array Slot), o = .inr (y4, y5) → inR y4 → inR y5 → lv_has ls 6 [(0, .ref (ad 51)), (4, .int (i2 y4)), (5, .int (i2 y5))] → WS D aC ad A H0 M H locs → W p l e rm_X3_lackOfWay s m args below meth c H locs 0 0 Q (F0 m 108 ls [])) (v4 : Int) (hv4 : inR v4) (v5 : Int) (hv5 : inR v5) (hf : f_X3_lackOfWay_s80 M v4 v5 = some o) {H : Heap} {locs : List Loc} {ls : Array Slot} (hl : lv_has ls 6 [(0, .ref (ad 51)), (4, .int (i2 v4)), (5, .int (i2 v5))]) (w : WS D aC ad A H0 M H locs) : W p l e rm_X3_lackOfWay s m args below meth c H locs 0 0 Q (F0 m 80 ls []) := by
  have hx := X.1.1
  have hb := X.1.2.1
  unfold f_X3_lackOfWay_s80 at hf
  refine lv_iload hx hb dX3_lackOfWay_80 (lv_at hl 2 rfl) ?_
  refine g_iconst X dX3_lackOfWay_82 ?_
  refine g_icmp_ge (tgt := 108) X hv5 (inL rfl) dX3_lackOfWay_83 (by decide) (fun cd => ?_) (fun cd => ?_)
  · replace hf := ite_t cd hf
    exact HE v4 v5 _ _ _ (Option.some.inj hf).symm hv4 hv5 hl w
  · replace hf := ite_f cd hf
    refine lv_iload hx hb dX3_lackOfWay_86 (lv_at hl 1 rfl) ?_
    refine g_iconst X dX3_lackOfWay_88 ?_
    refine lv_aload_n hx hb dX3_lackOfWay_89 rfl (lv_at hl 0 rfl) ?_
    refine g_getr X w fg_X3_18 KD_51 FR_51_3 dX3_lackOfWay_90 ?_
    refine lv_iload hx hb dX3_lackOfWay_93 (lv_at hl 2 rfl) ?_
    obtain ⟨hg, hf⟩ := gd_some hf
    refine g_iald X w KD_54 hv5 hg dX3_lackOfWay_95 ?_
    refine g_max X (inL rfl) (w.2.2 _ _) hl.1 mw_X3_50 ⟨nle rfl, nle rfl⟩ (nle rfl) (nle rfl) (nle rfl) dX3_lackOfWay_96 ?_
    refine g_iadd X dX3_lackOfWay_99 ?_
    obtain ⟨v4_2, ev4_2, hf⟩ := lt_some hf
    have hv4_2 : inR v4_2 := inR_of ev4_2 (inR_wrap _)
    refine g_ist (v := v4_2) (lv' := [(4, .int (i2 v4_2)), (0, .ref (ad 51)), (5, .int (i2 v5))]) X ev4_2 dX3_lackOfWay_100 hl (by decide) rfl (fun ls hl => ?_)
    obtain ⟨v5_2, ev5_2, hf⟩ := lt_some hf
    have hv5_2 : inR v5_2 := inR_of ev5_2 (inR_wrap _)
    refine lv_iinc (v := i2 v5_2) (lv' := [(5, .int (i2 v5_2)), (4, .int (i2 v4_2)), (0, .ref (ad 51))]) hx hb dX3_lackOfWay_102 hl (k := 2) rfl (by rw [ev5_2]; exact i2_add _ _) (by decide) rfl (fun ls hl => ?_)
    refine lv_goto (tgt := 80) hx hb dX3_lackOfWay_105 (by decide) ?_
    exact HC v4_2 v5_2 _ _ _ (Option.some.inj hf).symm hv4_2 hv5_2 (lv_sub hl [2, 1, 0] rfl) w
set_option maxRecDepth 100000 in
set_option maxHeartbeats 4000000 in
theorem l_X3_lackOfWay_80 (X : CX p s m args c cX3_lackOfWay 6 RX3 D aC ad sg A H0) {M : Mem} {out : Int × Int} (HE : ∀ (y4 : Int) (y5 : Int) (H : Heap) (locs : List Loc) (ls : Array Slot), out = (y4, y5) → inR y4 → inR y5 → lv_has ls 6 [(0, .ref (ad 51)), (4, .int (i2 y4)), (5, .int (i2 y5))] → WS D aC ad A H0 M H locs → W p l e rm_X3_lackOfWay s m args below meth c H locs 0 0 Q (F0 m 108 ls [])) : ∀ (n : Nat) (v4 : Int) (v5 : Int), whl (fun s => f_X3_lackOfWay_s80 M s.1 s.2) n (v4, v5) = some out → inR v4 → inR v5 → ∀ {H : Heap} {locs : List Loc} {ls : Array Slot}, lv_has ls 6 [(0, .ref (ad 51)), (4, .int (i2 v4)), (5, .int (i2 v5))] → WS D aC ad A H0 M H locs → W p l e rm_X3_lackOfWay s m args below meth c H locs 0 0 Q (F0 m 80 ls []) := by
  intro n
  induction n with
  | zero => intro v4 v5 hf; exact (whl_zero hf).elim
  | succ n ih =>
    intro v4 v5 hf hv4 hv5 H locs ls hl w
    obtain ⟨o, hf, hk1, hk2⟩ := whl_step hf
    exact b_X3_lackOfWay_s80 X  (fun y4 y5 H locs ls eo hy4 hy5 hl w => ih y4 y5 (hk1 _ eo) hy4 hy5 hl w) (fun y4 y5 H locs ls eo hy4 hy5 hl w => HE y4 y5 H locs ls (hk2 _ eo).symm hy4 hy5 hl w) v4 hv4 v5 hv5 hf hl w
set_option maxRecDepth 100000 in
set_option maxHeartbeats 4000000 in
theorem b_X3_lackOfWay_j108 (X : CX p s m args c cX3_lackOfWay 6 RX3 D aC ad sg A H0) {o : Int × Mem} (HR : ∀ (r : Int) (M1 : Mem) (H : Heap) (locs : List Loc) (pc : Nat) (ls : Array Slot), o = (r, M1) → inR r → WS D aC ad A H0 M1 H locs → decode cX3_lackOfWay pc = .ok (.ireturn, 1) → W p l e rm_X3_lackOfWay s m args below meth c H locs 0 0 Q (F0 m pc ls [.int (i2 r)])) (v4 : Int) (hv4 : inR v4) (M : Mem) (hf : f_X3_lackOfWay_j108 v4 M = some o) {H : Heap} {locs : List Loc} {ls : Array Slot} (hl : lv_has ls 6 [(4, .int (i2 v4))]) (w : WS D aC ad A H0 M H locs) : W p l e rm_X3_lackOfWay s m args below meth c H locs 0 0 Q (F0 m 108 ls []) := by
  have hx := X.1.1
  have hb := X.1.2.1
  unfold f_X3_lackOfWay_j108 at hf
  refine lv_iload hx hb dX3_lackOfWay_108 (lv_at hl 0 rfl) ?_
  exact HR v4 M _ _ _ _ (Option.some.inj hf).symm hv4 w dX3_lackOfWay_110
set_option maxRecDepth 100000 in
set_option maxHeartbeats 4000000 in
theorem b_X3_lackOfWay_j74 (X : CX p s m args c cX3_lackOfWay 6 RX3 D aC ad sg A H0) {o : Int × Mem} (HR : ∀ (r : Int) (M1 : Mem) (H : Heap) (locs : List Loc) (pc : Nat) (ls : Array Slot), o = (r, M1) → inR r → WS D aC ad A H0 M1 H locs → decode cX3_lackOfWay pc = .ok (.ireturn, 1) → W p l e rm_X3_lackOfWay s m args below meth c H locs 0 0 Q (F0 m pc ls [.int (i2 r)])) (M : Mem) (hf : f_X3_lackOfWay_j74 M = some o) {H : Heap} {locs : List Loc} {ls : Array Slot} (hl : lv_has ls 6 [(0, .ref (ad 51))]) (w : WS D aC ad A H0 M H locs) : W p l e rm_X3_lackOfWay s m args below meth c H locs 0 0 Q (F0 m 74 ls []) := by
  have hx := X.1.1
  have hb := X.1.2.1
  unfold f_X3_lackOfWay_j74 at hf
  refine g_iconst X dX3_lackOfWay_74 ?_
  refine g_ist (v := 0) (lv' := [(4, .int (i2 0)), (0, .ref (ad 51))]) X rfl dX3_lackOfWay_75 hl (by decide) rfl (fun ls hl => ?_)
  refine g_iconst X dX3_lackOfWay_77 ?_
  refine g_ist (v := 0) (lv' := [(5, .int (i2 0)), (4, .int (i2 0)), (0, .ref (ad 51))]) X rfl dX3_lackOfWay_78 hl (by decide) rfl (fun ls hl => ?_)
  obtain ⟨q, hq, h1⟩ := obn_some hf
  exact l_X3_lackOfWay_80 X  (out := q) (fun y4 y5 H locs ls eq hy4 hy5 hl w => b_X3_lackOfWay_j108 X  HR y4 hy4 M (by subst eq; exact h1) (lv_sub hl [1] rfl) w)  FU 0 0 hq (inL rfl) (inL rfl) (lv_sub hl [2, 1, 0] rfl) w
set_option maxRecDepth 100000 in
set_option maxHeartbeats 4000000 in
theorem b_X3_lackOfWay_0 (X : CX p s m args c cX3_lackOfWay 6 RX3 D aC ad sg A H0) {o : Int × Mem} (HR : ∀ (r : Int) (M1 : Mem) (H : Heap) (locs : List Loc) (pc : Nat) (ls : Array Slot), o = (r, M1) → inR r → WS D aC ad A H0 M1 H locs → decode cX3_lackOfWay pc = .ok (.ireturn, 1) → W p l e rm_X3_lackOfWay s m args below meth c H locs 0 0 Q (F0 m pc ls [.int (i2 r)])) (p1 : Int) (hp1 : inR p1) (p2 : Int) (hp2 : inR p2) (M : Mem) (hf : f_X3_lackOfWay p1 p2 M = some o) {H : Heap} {locs : List Loc} {ls : Array Slot} (hl : lv_has ls 6 [(0, .ref (ad 51)), (1, .int (i2 p1)), (2, .int (i2 p2))]) (w : WS D aC ad A H0 M H locs) : W p l e rm_X3_lackOfWay s m args below meth c H locs 0 0 Q (F0 m 0 ls []) := by
  have hx := X.1.1
  have hb := X.1.2.1
  unfold f_X3_lackOfWay at hf
  refine lv_aload_n hx hb dX3_lackOfWay_0 rfl (lv_at hl 0 rfl) ?_
  refine g_getr X w fg_X3_15 KD_51 FR_51_2 dX3_lackOfWay_1 ?_
  refine g_iconst X dX3_lackOfWay_4 ?_
  refine lv_aload_n hx hb dX3_lackOfWay_5 rfl (lv_at hl 0 rfl) ?_
  refine g_getr X w fg_X3_18 KD_51 FR_51_3 dX3_lackOfWay_6 ?_
  refine g_iconst X dX3_lackOfWay_9 ?_
  refine g_iconst X dX3_lackOfWay_10 ?_
  obtain ⟨hg, hf⟩ := gd_some hf
  obtain ⟨M_2, eM_2, hf⟩ := lt_some hf
  refine g_copy X w KD_53 KD_54 (inL rfl) (inL rfl) (inL rfl) hg hl.1 aw_X3_44 ⟨nle rfl, nle rfl⟩ (nle rfl) dX3_lackOfWay_11 (fun H locs w_M_2 => ?_)
  rw [← eM_2] at w_M_2
  refine lv_iload_n hx hb dX3_lackOfWay_14 rfl (lv_at hl 1 rfl) ?_
  refine g_istn (v := p1) (lv' := [(3, .int (i2 p1)), (0, .ref (ad 51)), (1, .int (i2 p1)), (2, .int (i2 p2))]) X rfl dX3_lackOfWay_15 rfl hl (by decide) rfl (fun ls hl => ?_)
  refine lv_aload_n hx hb dX3_lackOfWay_16 rfl (lv_at hl 1 rfl) ?_
  refine g_geti X w_M_2 fg_X3_27 KD_51 FR_51_0 dX3_lackOfWay_17 ?_
  refine g_iconst X dX3_lackOfWay_20 ?_
  refine g_isub X dX3_lackOfWay_21 ?_
  obtain ⟨v4, ev4, hf⟩ := lt_some hf
  have hv4 : inR v4 := inR_of ev4 (inR_wrap _)
  refine g_ist (v := v4) (lv' := [(4, .int (i2 v4)), (3, .int (i2 p1)), (0, .ref (ad 51)), (1, .int (i2 p1)), (2, .int (i2 p2))]) X ev4 dX3_lackOfWay_22 hl (by decide) rfl (fun ls hl => ?_)
  obtain ⟨q, hq, h1⟩ := obn_some hf
  exact l_X3_lackOfWay_24 X p2 hp2 (out := q) (fun y3 y4 M1 H locs ls eq hy3 hy4 hl w => b_X3_lackOfWay_j74 X  HR M1 (by subst eq; exact h1) (lv_sub hl [0] rfl) w)  FU p1 v4 M_2 hq hp1 hv4 (lv_sub hl [2, 4, 1, 0] rfl) w_M_2
set_option maxRecDepth 100000 in
set_option maxHeartbeats 4000000 in
theorem k_X3_lackOfWay {l : Launch} {D : va_G} {aC : Nat → ClassId} {ad : Nat → Nat} {sg : SG} (hi : Inj ad) (p1 : Int) (hp1 : inR p1) (p2 : Int) (hp2 : inR p2) {M : Mem} (hM : inM M) {r : Int} {M' : Mem} (hf : f_X3_lackOfWay p1 p2 M = some (r, M')) : MetI l D aC ad sg yX3_lackOfWay cX3_lackOfWay 6 (some .int) rm_X3_lackOfWay 0 0 [.ref (ad 51), .int (i2 p1), .int (i2 p2)] M r M' := by
  refine MetI.ofI (by decide +kernel) (nle rfl) hi hM (fun p e s m args below meth c Q H0 ls X hl w hret => ?_)
  exact b_X3_lackOfWay_0 X  (fun r1 M1 H locs pc ls eo hP w dg => by cases eo; exact hret H locs pc ls hP w dg) p1 hp1 p2 hp2 M hf hl w
set_option maxRecDepth 100000 in
set_option maxHeartbeats 4000000 in
theorem b_X3_divide_s4 (X : CX p s m args c cX3_divide 5 RX3 D aC ad sg A H0) (v1 : Int) (hv1 : inR v1) {M : Mem} {o : (Int × Int) ⊕ (Int × Int)} (HC : ∀ (y2 : Int) (y3 : Int) (H : Heap) (locs : List Loc) (ls : Array Slot), o = .inl (y2, y3) → inR y2 → inR y3 → lv_has ls 5 [(0, .ref (ad 51)), (1, .int (i2 v1)), (2, .int (i2 y2)), (3, .int (i2 y3))] → WS D aC ad A H0 M H locs → W p l e rm_X3_divide s m args below meth c H locs 0 0 Q (F0 m 4 ls [])) (HE : ∀ (y2 : Int) (y3 : Int) (H : Heap) (locs : List Loc) (ls : Array Slot), o = .inr (y2, y3) → inR y2 → inR y3 → lv_has ls 5 [(0, .ref (ad 51)), (1, .int (i2 v1)), (2, .int (i2 y2)), (3, .int (i2 y3))] → WS D aC ad A H0 M H locs → W p l e rm_X3_divide s m args below meth c H locs 0 0 Q (F0 m 22 ls [])) (v2 : Int) (hv2 : inR v2) (v3 : Int) (hv3 : inR v3) (hf : f_X3_divide_s4 v1 M v2 v3 = some o) {H : Heap} {locs : List Loc} {ls : Array Slot} (hl : lv_has ls 5 [(0, .ref (ad 51)), (1, .int (i2 v1)), (2, .int (i2 v2)), (3, .int (i2 v3))]) (w : WS D aC ad A H0 M H locs) : W p l e rm_X3_divide s m args below meth c H locs 0 0 Q (F0 m 4 ls []) := by
  have hx := X.1.1
  have hb := X.1.2.1
  unfold f_X3_divide_s4 at hf
  refine lv_iload_n hx hb dX3_divide_4 rfl (lv_at hl 3 rfl) ?_
  refine lv_aload_n hx hb dX3_divide_5 rfl (lv_at hl 0 rfl) ?_
  refine g_geti X w fg_X3_27 KD_51 FR_51_0 dX3_divide_6 ?_
  refine g_icmp_ge (tgt := 22) X hv3 (w.2.2 _ _) dX3_divide_9 (by decide) (fun cd => ?_) (fun cd => ?_)
  · replace hf := ite_t cd hf
    exact HE v2 v3 _ _ _ (Option.some.inj hf).symm hv2 hv3 hl w
  · replace hf := ite_f cd hf
    refine lv_iload_n hx hb dX3_divide_12 rfl (lv_at hl 2 rfl) ?_
    refine lv_iload_n hx hb dX3_divide_13 rfl (lv_at hl 1 rfl) ?_
    refine g_imul X dX3_divide_14 ?_
    obtain ⟨v2_2, ev2_2, hf⟩ := lt_some hf
    have hv2_2 : inR v2_2 := inR_of ev2_2 (inR_wrap _)
    refine g_istn (v := v2_2) (lv' := [(2, .int (i2 v2_2)), (0, .ref (ad 51)), (1, .int (i2 v1)), (3, .int (i2 v3))]) X ev2_2 dX3_divide_15 rfl hl (by decide) rfl (fun ls hl => ?_)
    obtain ⟨v3_2, ev3_2, hf⟩ := lt_some hf
    have hv3_2 : inR v3_2 := inR_of ev3_2 (inR_wrap _)
    refine lv_iinc (v := i2 v3_2) (lv' := [(3, .int (i2 v3_2)), (2, .int (i2 v2_2)), (0, .ref (ad 51)), (1, .int (i2 v1))]) hx hb dX3_divide_16 hl (k := 3) rfl (by rw [ev3_2]; exact i2_add _ _) (by decide) rfl (fun ls hl => ?_)
    refine lv_goto (tgt := 4) hx hb dX3_divide_19 (by decide) ?_
    exact HC v2_2 v3_2 _ _ _ (Option.some.inj hf).symm hv2_2 hv3_2 (lv_sub hl [2, 3, 1, 0] rfl) w
set_option maxRecDepth 100000 in
set_option maxHeartbeats 4000000 in
theorem l_X3_divide_4 (X : CX p s m args c cX3_divide 5 RX3 D aC ad sg A H0) (v1 : Int) (hv1 : inR v1) {M : Mem} {out : Int × Int} (HE : ∀ (y2 : Int) (y3 : Int) (H : Heap) (locs : List Loc) (ls : Array Slot), out = (y2, y3) → inR y2 → inR y3 → lv_has ls 5 [(0, .ref (ad 51)), (1, .int (i2 v1)), (2, .int (i2 y2)), (3, .int (i2 y3))] → WS D aC ad A H0 M H locs → W p l e rm_X3_divide s m args below meth c H locs 0 0 Q (F0 m 22 ls [])) : ∀ (n : Nat) (v2 : Int) (v3 : Int), whl (fun s => f_X3_divide_s4 v1 M s.1 s.2) n (v2, v3) = some out → inR v2 → inR v3 → ∀ {H : Heap} {locs : List Loc} {ls : Array Slot}, lv_has ls 5 [(0, .ref (ad 51)), (1, .int (i2 v1)), (2, .int (i2 v2)), (3, .int (i2 v3))] → WS D aC ad A H0 M H locs → W p l e rm_X3_divide s m args below meth c H locs 0 0 Q (F0 m 4 ls []) := by
  intro n
  induction n with
  | zero => intro v2 v3 hf; exact (whl_zero hf).elim
  | succ n ih =>
    intro v2 v3 hf hv2 hv3 H locs ls hl w
    obtain ⟨o, hf, hk1, hk2⟩ := whl_step hf
    exact b_X3_divide_s4 X v1 hv1 (fun y2 y3 H locs ls eo hy2 hy3 hl w => ih y2 y3 (hk1 _ eo) hy2 hy3 hl w) (fun y2 y3 H locs ls eo hy2 hy3 hl w => HE y2 y3 H locs ls (hk2 _ eo).symm hy2 hy3 hl w) v2 hv2 v3 hv3 hf hl w
set_option maxRecDepth 100000 in
set_option maxHeartbeats 4000000 in
theorem b_X3_divide_s24 (X : CX p s m args c cX3_divide 5 RX3 D aC ad sg A H0) (v1 : Int) (hv1 : inR v1) (v2 : Int) (hv2 : inR v2) {o : (Int × Mem) ⊕ (Int × Mem)} (HC : ∀ (y3 : Int) (M1 : Mem) (H : Heap) (locs : List Loc) (ls : Array Slot), o = .inl (y3, M1) → inR y3 → lv_has ls 5 [(0, .ref (ad 51)), (1, .int (i2 v1)), (2, .int (i2 v2)), (3, .int (i2 y3))] → WS D aC ad A H0 M1 H locs → W p l e rm_X3_divide s m args below meth c H locs 0 0 Q (F0 m 24 ls [])) (HE : ∀ (y3 : Int) (M1 : Mem) (H : Heap) (locs : List Loc) (ls : Array Slot), o = .inr (y3, M1) → inR y3 → lv_has ls 5 [(0, .ref (ad 51)), (1, .int (i2 v1)), (2, .int (i2 v2)), (3, .int (i2 y3))] → WS D aC ad A H0 M1 H locs → W p l e rm_X3_divide s m args below meth c H locs 0 0 Q (F0 m 79 ls [])) (v3 : Int) (hv3 : inR v3) (M : Mem) (hf : f_X3_divide_s24 v1 v2 v3 M = some o) {H : Heap} {locs : List Loc} {ls : Array Slot} (hl : lv_has ls 5 [(0, .ref (ad 51)), (1, .int (i2 v1)), (2, .int (i2 v2)), (3, .int (i2 v3))]) (w : WS D aC ad A H0 M H locs) : W p l e rm_X3_divide s m args below meth c H locs 0 0 Q (F0 m 24 ls []) := by
  have hx := X.1.1
  have hb := X.1.2.1
  unfold f_X3_divide_s24 at hf
  refine lv_iload_n hx hb dX3_divide_24 rfl (lv_at hl 3 rfl) ?_
  refine lv_iload_n hx hb dX3_divide_25 rfl (lv_at hl 2 rfl) ?_
  refine g_icmp_ge (tgt := 79) X hv3 hv2 dX3_divide_26 (by decide) (fun cd => ?_) (fun cd => ?_)
  · replace hf := ite_t cd hf
    exact HE v3 M _ _ _ (Option.some.inj hf).symm hv3 hl w
  · replace hf := ite_f cd hf
    refine lv_aload_n hx hb dX3_divide_29 rfl (lv_at hl 0 rfl) ?_
    refine lv_iload_n hx hb dX3_divide_30 rfl (lv_at hl 3 rfl) ?_
    refine lv_iload_n hx hb dX3_divide_31 rfl (lv_at hl 1 rfl) ?_
    obtain ⟨r, M_2, hc, hf⟩ := bnd_some hf
    refine g_cvi (As := [.int (i2 v3), .int (i2 v1)]) (rest := []) X w (k_X3_lackOfWay X.2.2.1 v3 hv3 v1 hv1 w.2.2 hc) lk_X3_37 cl_3 KD_51 ⟨rfl, rfl⟩ ⟨nle rfl, nle rfl⟩ ⟨nle rfl, nle rfl⟩ hl.1 rfl (nle rfl) dX3_divide_32 (fun hr H locs w_M_2 => ?_)
    refine g_ist (v := r) (lv' := [(4, .int (i2 r)), (0, .ref (ad 51)), (1, .int (i2 v1)), (2, .int (i2 v2)), (3, .int (i2 v3))]) X rfl dX3_divide_35 hl (by decide) rfl (fun ls hl => ?_)
    refine lv_iload_n hx hb dX3_divide_37 rfl (lv_at hl 4 rfl) ?_
    refine g_if_eq (tgt := 50) X hv3 dX3_divide_38 (by decide) (fun cd_2 => ?_) (fun cd_2 => ?_)
    · replace hf := ite_t cd_2 hf
      refine lv_aload_n hx hb dX3_divide_50 rfl (lv_at hl 1 rfl) ?_
      refine lv_iload hx hb dX3_divide_51 (lv_at hl 0 rfl) ?_
      obtain ⟨M_3, eM_3, hf⟩ := lt_some hf
      refine g_puti X w_M_2 fp_X3_41 KD_51 FR_51_6 hr dX3_divide_53 (fun H locs w_M_3 => ?_)
      rw [← eM_3] at w_M_3
      refine lv_aload_n hx hb dX3_divide_56 rfl (lv_at hl 1 rfl) ?_
      refine g_getr X w_M_3 fg_X3_21 KD_51 FR_51_4 dX3_divide_57 ?_
      refine g_iconst X dX3_divide_60 ?_
      refine lv_aload_n hx hb dX3_divide_61 rfl (lv_at hl 1 rfl) ?_
      refine g_getr X w_M_3 fg_X3_24 KD_51 FR_51_5 dX3_divide_62 ?_
      refine g_iconst X dX3_divide_65 ?_
      refine lv_aload_n hx hb dX3_divide_66 rfl (lv_at hl 1 rfl) ?_
      refine g_geti X w_M_3 fg_X3_27 KD_51 FR_51_0 dX3_divide_67 ?_
      obtain ⟨hg, hf⟩ := gd_some hf
      obtain ⟨M_4, eM_4, hf⟩ := lt_some hf
      refine g_copy X w_M_3 KD_55 KD_56 (inL rfl) (inL rfl) (w_M_3.2.2 _ _) hg hl.1 aw_X3_44 ⟨nle rfl, nle rfl⟩ (nle rfl) dX3_divide_70 (fun H locs w_M_4 => ?_)
      rw [← eM_4] at w_M_4
      obtain ⟨v3_2, ev3_2, hf⟩ := lt_some hf
      have hv3_2 : inR v3_2 := inR_of ev3_2 (inR_wrap _)
      refine lv_iinc (v := i2 v3_2) (lv' := [(3, .int (i2 v3_2)), (4, .int (i2 r)), (0, .ref (ad 51)), (1, .int (i2 v1)), (2, .int (i2 v2))]) hx hb dX3_divide_73 hl (k := 4) rfl (by rw [ev3_2]; exact i2_add _ _) (by decide) rfl (fun ls hl => ?_)
      refine lv_goto (tgt := 24) hx hb dX3_divide_76 (by decide) ?_
      exact HC v3_2 M_4 _ _ _ (Option.some.inj hf).symm hv3_2 (lv_sub hl [2, 3, 4, 0] rfl) w_M_4
    · replace hf := ite_f cd_2 hf
      refine lv_iload hx hb dX3_divide_41 (lv_at hl 0 rfl) ?_
      refine lv_aload_n hx hb dX3_divide_43 rfl (lv_at hl 1 rfl) ?_
      refine g_geti X w_M_2 fg_X3_41 KD_51 FR_51_6 dX3_divide_44 ?_
      refine g_icmp_ge (tgt := 73) X hr (w_M_2.2.2 _ _) dX3_divide_47 (by decide) (fun cd_3 => ?_) (fun cd_3 => ?_)
      · replace hf := ite_t cd_3 hf
        obtain ⟨v3_3, ev3_3, hf⟩ := lt_some hf
        have hv3_3 : inR v3_3 := inR_of ev3_3 (inR_wrap _)
        refine lv_iinc (v := i2 v3_3) (lv' := [(3, .int (i2 v3_3)), (4, .int (i2 r)), (0, .ref (ad 51)), (1, .int (i2 v1)), (2, .int (i2 v2))]) hx hb dX3_divide_73 hl (k := 4) rfl (by rw [ev3_3]; exact i2_add _ _) (by decide) rfl (fun ls hl => ?_)
        refine lv_goto (tgt := 24) hx hb dX3_divide_76 (by decide) ?_
        exact HC v3_3 M_2 _ _ _ (Option.some.inj hf).symm hv3_3 (lv_sub hl [2, 3, 4, 0] rfl) w_M_2
      · replace hf := ite_f cd_3 hf
        refine lv_aload_n hx hb dX3_divide_50 rfl (lv_at hl 1 rfl) ?_
        refine lv_iload hx hb dX3_divide_51 (lv_at hl 0 rfl) ?_
        obtain ⟨M_5, eM_5, hf⟩ := lt_some hf
        refine g_puti X w_M_2 fp_X3_41 KD_51 FR_51_6 hr dX3_divide_53 (fun H locs w_M_5 => ?_)
        rw [← eM_5] at w_M_5
        refine lv_aload_n hx hb dX3_divide_56 rfl (lv_at hl 1 rfl) ?_
        refine g_getr X w_M_5 fg_X3_21 KD_51 FR_51_4 dX3_divide_57 ?_
        refine g_iconst X dX3_divide_60 ?_
        refine lv_aload_n hx hb dX3_divide_61 rfl (lv_at hl 1 rfl) ?_
        refine g_getr X w_M_5 fg_X3_24 KD_51 FR_51_5 dX3_divide_62 ?_
        refine g_iconst X dX3_divide_65 ?_
        refine lv_aload_n hx hb dX3_divide_66 rfl (lv_at hl 1 rfl) ?_
        refine g_geti X w_M_5 fg_X3_27 KD_51 FR_51_0 dX3_divide_67 ?_
        obtain ⟨hg_2, hf⟩ := gd_some hf
        obtain ⟨M_6, eM_6, hf⟩ := lt_some hf
        refine g_copy X w_M_5 KD_55 KD_56 (inL rfl) (inL rfl) (w_M_5.2.2 _ _) hg_2 hl.1 aw_X3_44 ⟨nle rfl, nle rfl⟩ (nle rfl) dX3_divide_70 (fun H locs w_M_6 => ?_)
        rw [← eM_6] at w_M_6
        obtain ⟨v3_4, ev3_4, hf⟩ := lt_some hf
        have hv3_4 : inR v3_4 := inR_of ev3_4 (inR_wrap _)
        refine lv_iinc (v := i2 v3_4) (lv' := [(3, .int (i2 v3_4)), (4, .int (i2 r)), (0, .ref (ad 51)), (1, .int (i2 v1)), (2, .int (i2 v2))]) hx hb dX3_divide_73 hl (k := 4) rfl (by rw [ev3_4]; exact i2_add _ _) (by decide) rfl (fun ls hl => ?_)
        refine lv_goto (tgt := 24) hx hb dX3_divide_76 (by decide) ?_
        exact HC v3_4 M_6 _ _ _ (Option.some.inj hf).symm hv3_4 (lv_sub hl [2, 3, 4, 0] rfl) w_M_6
set_option maxRecDepth 100000 in
set_option maxHeartbeats 4000000 in
theorem l_X3_divide_24 (X : CX p s m args c cX3_divide 5 RX3 D aC ad sg A H0) (v1 : Int) (hv1 : inR v1) (v2 : Int) (hv2 : inR v2) {out : Int × Mem} (HE : ∀ (y3 : Int) (M1 : Mem) (H : Heap) (locs : List Loc) (ls : Array Slot), out = (y3, M1) → inR y3 → lv_has ls 5 [(0, .ref (ad 51)), (1, .int (i2 v1)), (2, .int (i2 v2)), (3, .int (i2 y3))] → WS D aC ad A H0 M1 H locs → W p l e rm_X3_divide s m args below meth c H locs 0 0 Q (F0 m 79 ls [])) : ∀ (n : Nat) (v3 : Int) (M : Mem), whl (fun s => f_X3_divide_s24 v1 v2 s.1 s.2) n (v3, M) = some out → inR v3 → ∀ {H : Heap} {locs : List Loc} {ls : Array Slot}, lv_has ls 5 [(0, .ref (ad 51)), (1, .int (i2 v1)), (2, .int (i2 v2)), (3, .int (i2 v3))] → WS D aC ad A H0 M H locs → W p l e rm_X3_divide s m args below meth c H locs 0 0 Q (F0 m 24 ls []) := by
  intro n
  induction n with
  | zero => intro v3 M hf; exact (whl_zero hf).elim
  | succ n ih =>
    intro v3 M hf hv3 H locs ls hl w
    obtain ⟨o, hf, hk1, hk2⟩ := whl_step hf
    exact b_X3_divide_s24 X v1 hv1 v2 hv2 (fun y3 M1 H locs ls eo hy3 hl w => ih y3 M1 (hk1 _ eo) hy3 hl w) (fun y3 M1 H locs ls eo hy3 hl w => HE y3 M1 H locs ls (hk2 _ eo).symm hy3 hl w) v3 hv3 M hf hl w
set_option maxRecDepth 100000 in
set_option maxHeartbeats 4000000 in
theorem b_X3_divide_j79 (X : CX p s m args c cX3_divide 5 RX3 D aC ad sg A H0) {o : Mem} (HR : ∀ (M1 : Mem) (H : Heap) (locs : List Loc) (pc : Nat) (ls : Array Slot), o = M1 → WS D aC ad A H0 M1 H locs → decode cX3_divide pc = .ok (.return_, 1) → W p l e rm_X3_divide s m args below meth c H locs 0 0 Q (F0 m pc ls [])) (M : Mem) (hf : f_X3_divide_j79 M = some o) {H : Heap} {locs : List Loc} {ls : Array Slot} (hl : lv_has ls 5 []) (w : WS D aC ad A H0 M H locs) : W p l e rm_X3_divide s m args below meth c H locs 0 0 Q (F0 m 79 ls []) := by
  have hx := X.1.1
  have hb := X.1.2.1
  unfold f_X3_divide_j79 at hf
  exact HR M _ _ _ _ (Option.some.inj hf).symm w dX3_divide_79
set_option maxRecDepth 100000 in
set_option maxHeartbeats 4000000 in
theorem b_X3_divide_j22 (X : CX p s m args c cX3_divide 5 RX3 D aC ad sg A H0) {o : Mem} (HR : ∀ (M1 : Mem) (H : Heap) (locs : List Loc) (pc : Nat) (ls : Array Slot), o = M1 → WS D aC ad A H0 M1 H locs → decode cX3_divide pc = .ok (.return_, 1) → W p l e rm_X3_divide s m args below meth c H locs 0 0 Q (F0 m pc ls [])) (v1 : Int) (hv1 : inR v1) (v2 : Int) (hv2 : inR v2) (M : Mem) (hf : f_X3_divide_j22 v1 v2 M = some o) {H : Heap} {locs : List Loc} {ls : Array Slot} (hl : lv_has ls 5 [(0, .ref (ad 51)), (1, .int (i2 v1)), (2, .int (i2 v2))]) (w : WS D aC ad A H0 M H locs) : W p l e rm_X3_divide s m args below meth c H locs 0 0 Q (F0 m 22 ls []) := by
  have hx := X.1.1
  have hb := X.1.2.1
  unfold f_X3_divide_j22 at hf
  refine g_iconst X dX3_divide_22 ?_
  refine g_istn (v := 0) (lv' := [(3, .int (i2 0)), (0, .ref (ad 51)), (1, .int (i2 v1)), (2, .int (i2 v2))]) X rfl dX3_divide_23 rfl hl (by decide) rfl (fun ls hl => ?_)
  obtain ⟨q, hq, h1⟩ := obn_some hf
  exact l_X3_divide_24 X v1 hv1 v2 hv2 (out := q) (fun y3 M1 H locs ls eq hy3 hl w => b_X3_divide_j79 X  HR M1 (by subst eq; exact h1) (lv_sub hl [] rfl) w)  FU 0 M hq (inL rfl) (lv_sub hl [1, 2, 3, 0] rfl) w
set_option maxRecDepth 100000 in
set_option maxHeartbeats 4000000 in
theorem b_X3_divide_0 (X : CX p s m args c cX3_divide 5 RX3 D aC ad sg A H0) {o : Mem} (HR : ∀ (M1 : Mem) (H : Heap) (locs : List Loc) (pc : Nat) (ls : Array Slot), o = M1 → WS D aC ad A H0 M1 H locs → decode cX3_divide pc = .ok (.return_, 1) → W p l e rm_X3_divide s m args below meth c H locs 0 0 Q (F0 m pc ls [])) (p1 : Int) (hp1 : inR p1) (M : Mem) (hf : f_X3_divide p1 M = some o) {H : Heap} {locs : List Loc} {ls : Array Slot} (hl : lv_has ls 5 [(0, .ref (ad 51)), (1, .int (i2 p1))]) (w : WS D aC ad A H0 M H locs) : W p l e rm_X3_divide s m args below meth c H locs 0 0 Q (F0 m 0 ls []) := by
  have hx := X.1.1
  have hb := X.1.2.1
  unfold f_X3_divide at hf
  refine g_iconst X dX3_divide_0 ?_
  refine g_istn (v := 1) (lv' := [(2, .int (i2 1)), (0, .ref (ad 51)), (1, .int (i2 p1))]) X rfl dX3_divide_1 rfl hl (by decide) rfl (fun ls hl => ?_)
  refine g_iconst X dX3_divide_2 ?_
  refine g_istn (v := 0) (lv' := [(3, .int (i2 0)), (2, .int (i2 1)), (0, .ref (ad 51)), (1, .int (i2 p1))]) X rfl dX3_divide_3 rfl hl (by decide) rfl (fun ls hl => ?_)
  obtain ⟨q, hq, h1⟩ := obn_some hf
  exact l_X3_divide_4 X p1 hp1 (out := q) (fun y2 y3 H locs ls eq hy2 hy3 hl w => b_X3_divide_j22 X  HR p1 hp1 y2 hy2 M (by subst eq; exact h1) (lv_sub hl [0, 1, 2] rfl) w)  FU 1 0 hq (inL rfl) (inL rfl) (lv_sub hl [2, 3, 1, 0] rfl) w
set_option maxRecDepth 100000 in
set_option maxHeartbeats 4000000 in
theorem k_X3_divide {l : Launch} {D : va_G} {aC : Nat → ClassId} {ad : Nat → Nat} {sg : SG} (hi : Inj ad) (p1 : Int) (hp1 : inR p1) {M : Mem} (hM : inM M) {M' : Mem} (hf : f_X3_divide p1 M = some M') : MetV l D aC ad sg yX3_divide cX3_divide 5 rm_X3_divide 0 0 [.ref (ad 51), .int (i2 p1)] M M' := by
  refine MetV.of (by decide +kernel) (nle rfl) hi hM (fun p e s m args below meth c Q H0 ls X hl w hret => ?_)
  exact b_X3_divide_0 X  (fun M1 H locs pc ls eo w dg => by cases eo; exact hret H locs pc ls w dg) p1 hp1 M hf hl w
end
section
variable {p : Program} {l : Launch} {e : Env} {s : State} {m : MethodId} {args : Array Value} {below : List Frame} {meth : Method} {c : Code} {Q : State → Prop} {D : va_G} {aC : Nat → ClassId} {ad : Nat → Nat} {sg : SG} {A : Nat → Prop} {H0 : Heap}
set_option maxRecDepth 100000 in
set_option maxHeartbeats 4000000 in
theorem b_X9_hasSpace_0 (X : CX p s m args c cX9_hasSpace 2 RX9 D aC ad sg A H0) {M : Mem} {o : Int} (HR : ∀ (r : Int) (H : Heap) (locs : List Loc) (pc : Nat) (ls : Array Slot), o = r → isZ r → WS D aC ad A H0 M H locs → decode cX9_hasSpace pc = .ok (.ireturn, 1) → W p l e rm_X9_hasSpace s m args below meth c H locs 0 0 Q (F0 m pc ls [.int (i2 r)])) (p1 : Int) (hp1 : inR p1) (hf : f_X9_hasSpace p1 M = some o) {H : Heap} {locs : List Loc} {ls : Array Slot} (hl : lv_has ls 2 [(0, .ref (ad 24)), (1, .int (i2 p1))]) (w : WS D aC ad A H0 M H locs) : W p l e rm_X9_hasSpace s m args below meth c H locs 0 0 Q (F0 m 0 ls []) := by
  have hx := X.1.1
  have hb := X.1.2.1
  unfold f_X9_hasSpace at hf
  refine lv_aload_n hx hb dX9_hasSpace_0 rfl (lv_at hl 0 rfl) ?_
  refine g_geti X w fg_X9_25 KD_24 FR_24_0 dX9_hasSpace_1 ?_
  refine lv_iload_n hx hb dX9_hasSpace_4 rfl (lv_at hl 1 rfl) ?_
  refine g_iadd X dX9_hasSpace_5 ?_
  refine g_sipush X dX9_hasSpace_6 (by decide) ?_
  refine g_icmp_gt (tgt := 16) X (inR_wrap _) (inL rfl) dX9_hasSpace_9 (by decide) (fun cd => ?_) (fun cd => ?_)
  · replace hf := ite_t cd hf
    refine g_iconst X dX9_hasSpace_16 ?_
    exact HR 0 _ _ _ _ (Option.some.inj hf).symm (Or.inl rfl) w dX9_hasSpace_17
  · replace hf := ite_f cd hf
    refine g_iconst X dX9_hasSpace_12 ?_
    refine lv_goto (tgt := 17) hx hb dX9_hasSpace_13 (by decide) ?_
    exact HR 1 _ _ _ _ (Option.some.inj hf).symm (Or.inr rfl) w dX9_hasSpace_17
set_option maxRecDepth 100000 in
set_option maxHeartbeats 4000000 in
theorem k_X9_hasSpace {l : Launch} {D : va_G} {aC : Nat → ClassId} {ad : Nat → Nat} {sg : SG} (hi : Inj ad) (p1 : Int) (hp1 : inR p1) {M : Mem} (hM : inM M) {r : Int} (hf : f_X9_hasSpace p1 M = some r) : MetI l D aC ad sg yX9_hasSpace cX9_hasSpace 2 (some .boolean) rm_X9_hasSpace 0 0 [.ref (ad 24), .int (i2 p1)] M r M := by
  refine MetI.ofZ (by decide +kernel) (nle rfl) hi hM (fun p e s m args below meth c Q H0 ls X hl w hret => ?_)
  exact b_X9_hasSpace_0 X  (fun r1 H locs pc ls eo hP w dg => by cases eo; exact hret H locs pc ls hP w dg) p1 hp1 hf hl w
set_option maxRecDepth 100000 in
set_option maxHeartbeats 4000000 in
theorem b_X9_append_s3 (X : CX p s m args c cX9_append 3 RX9 D aC ad sg A H0) (v1 : Int) (hv1 : inR v1) {o : (Int × Mem) ⊕ (Int × Mem)} (HC : ∀ (y2 : Int) (M1 : Mem) (H : Heap) (locs : List Loc) (ls : Array Slot), o = .inl (y2, M1) → inR y2 → lv_has ls 3 [(0, .ref (ad 24)), (1, .int (i2 v1)), (2, .int (i2 y2))] → WS D aC ad A H0 M1 H locs → W p l e rm_X9_append s m args below meth c H locs 0 0 Q (F0 m 3 ls [])) (HE : ∀ (y2 : Int) (M1 : Mem) (H : Heap) (locs : List Loc) (ls : Array Slot), o = .inr (y2, M1) → inR y2 → lv_has ls 3 [(0, .ref (ad 24)), (1, .int (i2 v1)), (2, .int (i2 y2))] → WS D aC ad A H0 M1 H locs → W p l e rm_X9_append s m args below meth c H locs 0 0 Q (F0 m 50 ls [])) (v2 : Int) (hv2 : inR v2) (M : Mem) (hf : f_X9_append_s3 v1 v2 M = some o) {H : Heap} {locs : List Loc} {ls : Array Slot} (hl : lv_has ls 3 [(0, .ref (ad 24)), (1, .int (i2 v1)), (2, .int (i2 v2))]) (w : WS D aC ad A H0 M H locs) : W p l e rm_X9_append s m args below meth c H locs 0 0 Q (F0 m 3 ls []) := by
  have hx := X.1.1
  have hb := X.1.2.1
  unfold f_X9_append_s3 at hf
  refine lv_iload_n hx hb dX9_append_3 rfl (lv_at hl 2 rfl) ?_
  refine g_if_lt (tgt := 50) X hv2 dX9_append_4 (by decide) (fun cd => ?_) (fun cd => ?_)
  · replace hf := ite_t cd hf
    exact HE v2 M _ _ _ (Option.some.inj hf).symm hv2 hl w
  · replace hf := ite_f cd hf
    refine lv_aload_n hx hb dX9_append_7 rfl (lv_at hl 0 rfl) ?_
    refine g_geti X w fg_X9_25 KD_24 FR_24_0 dX9_append_8 ?_
    refine g_sipush X dX9_append_11 (by decide) ?_
    refine g_icmp_ge (tgt := 50) X (w.2.2 _ _) (inL rfl) dX9_append_14 (by decide) (fun cd_2 => ?_) (fun cd_2 => ?_)
    · replace hf := ite_t cd_2 hf
      exact HE v2 M _ _ _ (Option.some.inj hf).symm hv2 hl w
    · replace hf := ite_f cd_2 hf
      refine lv_aload_n hx hb dX9_append_17 rfl (lv_at hl 0 rfl) ?_
      refine g_getr X w fg_X9_11 KD_24 FR_24_1 dX9_append_18 ?_
      refine lv_aload_n hx hb dX9_append_21 rfl (lv_at hl 0 rfl) ?_
      refine g_geti X w fg_X9_25 KD_24 FR_24_0 dX9_append_22 ?_
      refine lv_iload_n hx hb dX9_append_25 rfl (lv_at hl 1 rfl) ?_
      refine lv_iload_n hx hb dX9_append_26 rfl (lv_at hl 2 rfl) ?_
      refine g_ishr X dX9_append_27 ?_
      refine g_sipush X dX9_append_28 (by decide) ?_
      refine g_iand X dX9_append_31 ?_
      refine g_i2c X dX9_append_32 ?_
      obtain ⟨hg, hf⟩ := gd_some hf
      obtain ⟨hz, hf⟩ := gd_some hf
      obtain ⟨M_2, eM_2, hf⟩ := lt_some hf
      refine g_cast X w KD_25 (w.2.2 _ _) hg hz dX9_append_33 (fun H locs w_M_2 => ?_)
      rw [← eM_2] at w_M_2
      refine lv_aload_n hx hb dX9_append_34 rfl (lv_at hl 0 rfl) ?_
      refine lv_dup hx hb dX9_append_35 rfl ?_
      refine g_geti X w_M_2 fg_X9_25 KD_24 FR_24_0 dX9_append_36 ?_
      refine g_iconst X dX9_append_39 ?_
      refine g_iadd X dX9_append_40 ?_
      obtain ⟨M_3, eM_3, hf⟩ := lt_some hf
      refine g_puti X w_M_2 fp_X9_25 KD_24 FR_24_0 (inR_wrap _) dX9_append_41 (fun H locs w_M_3 => ?_)
      rw [← eM_3] at w_M_3
      obtain ⟨v2_2, ev2_2, hf⟩ := lt_some hf
      have hv2_2 : inR v2_2 := inR_of ev2_2 (inR_wrap _)
      refine lv_iinc (v := i2 v2_2) (lv' := [(2, .int (i2 v2_2)), (0, .ref (ad 24)), (1, .int (i2 v1))]) hx hb dX9_append_44 hl (k := 2) rfl (by rw [ev2_2]; exact i2_add _ _) (by decide) rfl (fun ls hl => ?_)
      refine lv_goto (tgt := 3) hx hb dX9_append_47 (by decide) ?_
      exact HC v2_2 M_3 _ _ _ (Option.some.inj hf).symm hv2_2 (lv_sub hl [1, 2, 0] rfl) w_M_3
set_option maxRecDepth 100000 in
set_option maxHeartbeats 4000000 in
theorem l_X9_append_3 (X : CX p s m args c cX9_append 3 RX9 D aC ad sg A H0) (v1 : Int) (hv1 : inR v1) {out : Int × Mem} (HE : ∀ (y2 : Int) (M1 : Mem) (H : Heap) (locs : List Loc) (ls : Array Slot), out = (y2, M1) → inR y2 → lv_has ls 3 [(0, .ref (ad 24)), (1, .int (i2 v1)), (2, .int (i2 y2))] → WS D aC ad A H0 M1 H locs → W p l e rm_X9_append s m args below meth c H locs 0 0 Q (F0 m 50 ls [])) : ∀ (n : Nat) (v2 : Int) (M : Mem), whl (fun s => f_X9_append_s3 v1 s.1 s.2) n (v2, M) = some out → inR v2 → ∀ {H : Heap} {locs : List Loc} {ls : Array Slot}, lv_has ls 3 [(0, .ref (ad 24)), (1, .int (i2 v1)), (2, .int (i2 v2))] → WS D aC ad A H0 M H locs → W p l e rm_X9_append s m args below meth c H locs 0 0 Q (F0 m 3 ls []) := by
  intro n
  induction n with
  | zero => intro v2 M hf; exact (whl_zero hf).elim
  | succ n ih =>
    intro v2 M hf hv2 H locs ls hl w
    obtain ⟨o, hf, hk1, hk2⟩ := whl_step hf
    exact b_X9_append_s3 X v1 hv1 (fun y2 M1 H locs ls eo hy2 hl w => ih y2 M1 (hk1 _ eo) hy2 hl w) (fun y2 M1 H locs ls eo hy2 hl w => HE y2 M1 H locs ls (hk2 _ eo).symm hy2 hl w) v2 hv2 M hf hl w
set_option maxRecDepth 100000 in
set_option maxHeartbeats 4000000 in
theorem b_X9_append_j50 (X : CX p s m args c cX9_append 3 RX9 D aC ad sg A H0) {o : Mem} (HR : ∀ (M1 : Mem) (H : Heap) (locs : List Loc) (pc : Nat) (ls : Array Slot), o = M1 → WS D aC ad A H0 M1 H locs → decode cX9_append pc = .ok (.return_, 1) → W p l e rm_X9_append s m args below meth c H locs 0 0 Q (F0 m pc ls [])) (M : Mem) (hf : f_X9_append_j50 M = some o) {H : Heap} {locs : List Loc} {ls : Array Slot} (hl : lv_has ls 3 []) (w : WS D aC ad A H0 M H locs) : W p l e rm_X9_append s m args below meth c H locs 0 0 Q (F0 m 50 ls []) := by
  have hx := X.1.1
  have hb := X.1.2.1
  unfold f_X9_append_j50 at hf
  exact HR M _ _ _ _ (Option.some.inj hf).symm w dX9_append_50
set_option maxRecDepth 100000 in
set_option maxHeartbeats 4000000 in
theorem b_X9_append_0 (X : CX p s m args c cX9_append 3 RX9 D aC ad sg A H0) {o : Mem} (HR : ∀ (M1 : Mem) (H : Heap) (locs : List Loc) (pc : Nat) (ls : Array Slot), o = M1 → WS D aC ad A H0 M1 H locs → decode cX9_append pc = .ok (.return_, 1) → W p l e rm_X9_append s m args below meth c H locs 0 0 Q (F0 m pc ls [])) (p1 : Int) (hp1 : inR p1) (M : Mem) (hf : f_X9_append p1 M = some o) {H : Heap} {locs : List Loc} {ls : Array Slot} (hl : lv_has ls 3 [(0, .ref (ad 24)), (1, .int (i2 p1))]) (w : WS D aC ad A H0 M H locs) : W p l e rm_X9_append s m args below meth c H locs 0 0 Q (F0 m 0 ls []) := by
  have hx := X.1.1
  have hb := X.1.2.1
  unfold f_X9_append at hf
  refine g_bipush X dX9_append_0 (by decide) ?_
  refine g_istn (v := 24) (lv' := [(2, .int (i2 24)), (0, .ref (ad 24)), (1, .int (i2 p1))]) X rfl dX9_append_2 rfl hl (by decide) rfl (fun ls hl => ?_)
  obtain ⟨q, hq, h1⟩ := obn_some hf
  exact l_X9_append_3 X p1 hp1 (out := q) (fun y2 M1 H locs ls eq hy2 hl w => b_X9_append_j50 X  HR M1 (by subst eq; exact h1) (lv_sub hl [] rfl) w)  FU 24 M hq (inL rfl) (lv_sub hl [1, 2, 0] rfl) w
set_option maxRecDepth 100000 in
set_option maxHeartbeats 4000000 in
theorem k_X9_append {l : Launch} {D : va_G} {aC : Nat → ClassId} {ad : Nat → Nat} {sg : SG} (hi : Inj ad) (p1 : Int) (hp1 : inR p1) {M : Mem} (hM : inM M) {M' : Mem} (hf : f_X9_append p1 M = some M') : MetV l D aC ad sg yX9_append cX9_append 3 rm_X9_append 0 0 [.ref (ad 24), .int (i2 p1)] M M' := by
  refine MetV.of (by decide +kernel) (nle rfl) hi hM (fun p e s m args below meth c Q H0 ls X hl w hret => ?_)
  exact b_X9_append_0 X  (fun M1 H locs pc ls eo w dg => by cases eo; exact hret H locs pc ls w dg) p1 hp1 M hf hl w
set_option maxRecDepth 100000 in
set_option maxHeartbeats 4000000 in
theorem b_X9_isLetter_0 (X : CX p s m args c cX9_isLetter 1 RX9 D aC ad sg A H0) {M : Mem} {o : Int} (HR : ∀ (r : Int) (H : Heap) (locs : List Loc) (pc : Nat) (ls : Array Slot), o = r → isZ r → WS D aC ad A H0 M H locs → decode cX9_isLetter pc = .ok (.ireturn, 1) → W p l e rm_X9_isLetter s m args below meth c H locs 0 0 Q (F0 m pc ls [.int (i2 r)])) (p0 : Int) (hp0 : inR p0) (hf : f_X9_isLetter p0 M = some o) {H : Heap} {locs : List Loc} {ls : Array Slot} (hl : lv_has ls 1 [(0, .int (i2 p0))]) (w : WS D aC ad A H0 M H locs) : W p l e rm_X9_isLetter s m args below meth c H locs 0 0 Q (F0 m 0 ls []) := by
  have hx := X.1.1
  have hb := X.1.2.1
  unfold f_X9_isLetter at hf
  refine lv_iload_n hx hb dX9_isLetter_0 rfl (lv_at hl 0 rfl) ?_
  refine g_bipush X dX9_isLetter_1 (by decide) ?_
  refine g_icmp_lt (tgt := 16) X hp0 (inL rfl) dX9_isLetter_3 (by decide) (fun cd => ?_) (fun cd => ?_)
  · replace hf := ite_t cd hf
    refine g_iconst X dX9_isLetter_16 ?_
    exact HR 0 _ _ _ _ (Option.some.inj hf).symm (Or.inl rfl) w dX9_isLetter_17
  · replace hf := ite_f cd hf
    refine lv_iload_n hx hb dX9_isLetter_6 rfl (lv_at hl 0 rfl) ?_
    refine g_bipush X dX9_isLetter_7 (by decide) ?_
    refine g_icmp_gt (tgt := 16) X hp0 (inL rfl) dX9_isLetter_9 (by decide) (fun cd_2 => ?_) (fun cd_2 => ?_)
    · replace hf := ite_t cd_2 hf
      refine g_iconst X dX9_isLetter_16 ?_
      exact HR 0 _ _ _ _ (Option.some.inj hf).symm (Or.inl rfl) w dX9_isLetter_17
    · replace hf := ite_f cd_2 hf
      refine g_iconst X dX9_isLetter_12 ?_
      refine lv_goto (tgt := 17) hx hb dX9_isLetter_13 (by decide) ?_
      exact HR 1 _ _ _ _ (Option.some.inj hf).symm (Or.inr rfl) w dX9_isLetter_17
set_option maxRecDepth 100000 in
set_option maxHeartbeats 4000000 in
theorem k_X9_isLetter {l : Launch} {D : va_G} {aC : Nat → ClassId} {ad : Nat → Nat} {sg : SG} (hi : Inj ad) (p0 : Int) (hp0 : inR p0) {M : Mem} (hM : inM M) {r : Int} (hf : f_X9_isLetter p0 M = some r) : MetI l D aC ad sg yX9_isLetter cX9_isLetter 1 (some .boolean) rm_X9_isLetter 0 0 [.int (i2 p0)] M r M := by
  refine MetI.ofZ (by decide +kernel) (nle rfl) hi hM (fun p e s m args below meth c Q H0 ls X hl w hret => ?_)
  exact b_X9_isLetter_0 X  (fun r1 H locs pc ls eo hP w dg => by cases eo; exact hret H locs pc ls hP w dg) p0 hp0 hf hl w
set_option maxRecDepth 100000 in
set_option maxHeartbeats 4000000 in
theorem b_X9_wordCode_s8 (X : CX p s m args c cX9_wordCode 7 RX9 D aC ad sg A H0) (v1 : Int) (hv1 : inR v1) (v2 : Int) (hv2 : inR v2) {o : (Int × Int × Int × Mem) ⊕ ((Int × Int × Int × Mem) ⊕ (Int × Mem))} (HC : ∀ (y3 : Int) (y4 : Int) (y5 : Int) (M1 : Mem) (H : Heap) (locs : List Loc) (ls : Array Slot), o = .inl (y3, y4, y5, M1) → inR y3 → inR y4 → inR y5 → lv_has ls 7 [(0, .ref (ad 24)), (1, .int (i2 v1)), (2, .int (i2 v2)), (3, .int (i2 y3)), (4, .int (i2 y4)), (5, .int (i2 y5))] → WS D aC ad A H0 M1 H locs → W p l e rm_X9_wordCode s m args below meth c H locs 0 0 Q (F0 m 8 ls [])) (HE : ∀ (y3 : Int) (y4 : Int) (y5 : Int) (M1 : Mem) (H : Heap) (locs : List Loc) (ls : Array Slot), o = .inr (.inl (y3, y4, y5, M1)) → inR y3 → inR y4 → inR y5 → lv_has ls 7 [(0, .ref (ad 24)), (1, .int (i2 v1)), (2, .int (i2 v2)), (3, .int (i2 y3)), (4, .int (i2 y4)), (5, .int (i2 y5))] → WS D aC ad A H0 M1 H locs → W p l e rm_X9_wordCode s m args below meth c H locs 0 0 Q (F0 m 91 ls [])) (HR : ∀ (r : Int) (M1 : Mem) (H : Heap) (locs : List Loc) (pc : Nat) (ls : Array Slot), o = .inr (.inr (r, M1)) → inR r → WS D aC ad A H0 M1 H locs → decode cX9_wordCode pc = .ok (.ireturn, 1) → W p l e rm_X9_wordCode s m args below meth c H locs 0 0 Q (F0 m pc ls [.int (i2 r)])) (v3 : Int) (hv3 : inR v3) (v4 : Int) (hv4 : inR v4) (v5 : Int) (hv5 : inR v5) (M : Mem) (hf : f_X9_wordCode_s8 v1 v2 v3 v4 v5 M = some o) {H : Heap} {locs : List Loc} {ls : Array Slot} (hl : lv_has ls 7 [(0, .ref (ad 24)), (1, .int (i2 v1)), (2, .int (i2 v2)), (3, .int (i2 v3)), (4, .int (i2 v4)), (5, .int (i2 v5))]) (w : WS D aC ad A H0 M H locs) : W p l e rm_X9_wordCode s m args below meth c H locs 0 0 Q (F0 m 8 ls []) := by
  have hx := X.1.1
  have hb := X.1.2.1
  unfold f_X9_wordCode_s8 at hf
  refine lv_iload hx hb dX9_wordCode_8 (lv_at hl 5 rfl) ?_
  refine g_ldcs X (i := 0) (by decide) rfl rfl dX9_wordCode_10 ?_
  refine g_slen X w (by decide) sw_X9_61 hl.1 ⟨nle rfl, nle rfl⟩ ⟨nle rfl, nle rfl⟩ (nle rfl) dX9_wordCode_12 (fun H locs w => ?_)
  refine g_icmp_ge (tgt := 91) X hv5 (sLen_R _) dX9_wordCode_15 (by decide) (fun cd => ?_) (fun cd => ?_)
  · replace hf := ite_t cd hf
    exact HE v3 v4 v5 M _ _ _ (Option.some.inj hf).symm hv3 hv4 hv5 hl w
  · replace hf := ite_f cd hf
    refine g_ldcs X (i := 0) (by decide) rfl rfl dX9_wordCode_18 ?_
    refine lv_iload hx hb dX9_wordCode_20 (lv_at hl 5 rfl) ?_
    obtain ⟨hg, hf⟩ := gd_some hf
    refine g_schar X w (by decide) hv5 hg sw_X9_66 hl.1 ⟨nle rfl, nle rfl⟩ ⟨nle rfl, nle rfl⟩ (nle rfl) dX9_wordCode_22 (fun H locs w => ?_)
    obtain ⟨v6, ev6, hf⟩ := lt_some hf
    have hv6 : inR v6 := inR_of ev6 (sAt_R _ _)
    refine g_ist (v := v6) (lv' := [(6, .int (i2 v6)), (0, .ref (ad 24)), (1, .int (i2 v1)), (2, .int (i2 v2)), (3, .int (i2 v3)), (4, .int (i2 v4)), (5, .int (i2 v5))]) X ev6 dX9_wordCode_25 hl (by decide) rfl (fun ls hl => ?_)
    refine lv_iload hx hb dX9_wordCode_27 (lv_at hl 0 rfl) ?_
    refine g_bipush X dX9_wordCode_29 (by decide) ?_
    refine g_icmp_ne (tgt := 51) X hv6 (inL rfl) dX9_wordCode_31 (by decide) (fun cd_2 => ?_) (fun cd_2 => ?_)
    · replace hf := ite_f cd_2 hf
      refine lv_iload hx hb dX9_wordCode_51 (lv_at hl 5 rfl) ?_
      refine g_if_lt (tgt := 82) X hv4 dX9_wordCode_53 (by decide) (fun cd_3 => ?_) (fun cd_3 => ?_)
      · replace hf := ite_t cd_3 hf
        refine g_iconst X dX9_wordCode_82 ?_
        refine g_ist (v := (-1)) (lv' := [(4, .int (i2 (-1))), (6, .int (i2 v6)), (0, .ref (ad 24)), (1, .int (i2 v1)), (2, .int (i2 v2)), (3, .int (i2 v3)), (5, .int (i2 v5))]) X rfl dX9_wordCode_83 hl (by decide) rfl (fun ls hl => ?_)
        obtain ⟨v5_2, ev5_2, hf⟩ := lt_some hf
        have hv5_2 : inR v5_2 := inR_of ev5_2 (inR_wrap _)
        refine lv_iinc (v := i2 v5_2) (lv' := [(5, .int (i2 v5_2)), (4, .int (i2 (-1))), (6, .int (i2 v6)), (0, .ref (ad 24)), (1, .int (i2 v1)), (2, .int (i2 v2)), (3, .int (i2 v3))]) hx hb dX9_wordCode_85 hl (k := 6) rfl (by rw [ev5_2]; exact i2_add _ _) (by decide) rfl (fun ls hl => ?_)
        refine lv_goto (tgt := 8) hx hb dX9_wordCode_88 (by decide) ?_
        exact HC v3 (-1) v5_2 M _ _ _ (Option.some.inj hf).symm hv3 (inL rfl) hv5_2 (lv_sub hl [3, 4, 5, 6, 1, 0] rfl) w
      · replace hf := ite_f cd_3 hf
        refine lv_iload hx hb dX9_wordCode_56 (lv_at hl 5 rfl) ?_
        refine lv_iload_n hx hb dX9_wordCode_58 rfl (lv_at hl 3 rfl) ?_
        refine g_icmp_ge (tgt := 82) X hv4 hv2 dX9_wordCode_59 (by decide) (fun cd_4 => ?_) (fun cd_4 => ?_)
        · replace hf := ite_t cd_4 hf
          refine g_iconst X dX9_wordCode_82 ?_
          refine g_ist (v := (-1)) (lv' := [(4, .int (i2 (-1))), (6, .int (i2 v6)), (0, .ref (ad 24)), (1, .int (i2 v1)), (2, .int (i2 v2)), (3, .int (i2 v3)), (5, .int (i2 v5))]) X rfl dX9_wordCode_83 hl (by decide) rfl (fun ls hl => ?_)
          obtain ⟨v5_3, ev5_3, hf⟩ := lt_some hf
          have hv5_3 : inR v5_3 := inR_of ev5_3 (inR_wrap _)
          refine lv_iinc (v := i2 v5_3) (lv' := [(5, .int (i2 v5_3)), (4, .int (i2 (-1))), (6, .int (i2 v6)), (0, .ref (ad 24)), (1, .int (i2 v1)), (2, .int (i2 v2)), (3, .int (i2 v3))]) hx hb dX9_wordCode_85 hl (k := 6) rfl (by rw [ev5_3]; exact i2_add _ _) (by decide) rfl (fun ls hl => ?_)
          refine lv_goto (tgt := 8) hx hb dX9_wordCode_88 (by decide) ?_
          exact HC v3 (-1) v5_3 M _ _ _ (Option.some.inj hf).symm hv3 (inL rfl) hv5_3 (lv_sub hl [3, 4, 5, 6, 1, 0] rfl) w
        · replace hf := ite_f cd_4 hf
          refine lv_aload_n hx hb dX9_wordCode_62 rfl (lv_at hl 1 rfl) ?_
          refine g_getr X w fg_X9_11 KD_24 FR_24_1 dX9_wordCode_63 ?_
          refine lv_iload_n hx hb dX9_wordCode_66 rfl (lv_at hl 2 rfl) ?_
          refine lv_iload hx hb dX9_wordCode_67 (lv_at hl 5 rfl) ?_
          refine g_iadd X dX9_wordCode_69 ?_
          obtain ⟨hg_2, hf⟩ := gd_some hf
          refine g_cald X w KD_25 (inR_wrap _) hg_2 dX9_wordCode_70 ?_
          refine lv_iload hx hb dX9_wordCode_71 (lv_at hl 0 rfl) ?_
          refine g_icmp_ne (tgt := 82) X (w.2.2 _ _) hv6 dX9_wordCode_73 (by decide) (fun cd_5 => ?_) (fun cd_5 => ?_)
          · replace hf := ite_f cd_5 hf
            refine g_iconst X dX9_wordCode_82 ?_
            refine g_ist (v := (-1)) (lv' := [(4, .int (i2 (-1))), (6, .int (i2 v6)), (0, .ref (ad 24)), (1, .int (i2 v1)), (2, .int (i2 v2)), (3, .int (i2 v3)), (5, .int (i2 v5))]) X rfl dX9_wordCode_83 hl (by decide) rfl (fun ls hl => ?_)
            obtain ⟨v5_4, ev5_4, hf⟩ := lt_some hf
            have hv5_4 : inR v5_4 := inR_of ev5_4 (inR_wrap _)
            refine lv_iinc (v := i2 v5_4) (lv' := [(5, .int (i2 v5_4)), (4, .int (i2 (-1))), (6, .int (i2 v6)), (0, .ref (ad 24)), (1, .int (i2 v1)), (2, .int (i2 v2)), (3, .int (i2 v3))]) hx hb dX9_wordCode_85 hl (k := 6) rfl (by rw [ev5_4]; exact i2_add _ _) (by decide) rfl (fun ls hl => ?_)
            refine lv_goto (tgt := 8) hx hb dX9_wordCode_88 (by decide) ?_
            exact HC v3 (-1) v5_4 M _ _ _ (Option.some.inj hf).symm hv3 (inL rfl) hv5_4 (lv_sub hl [3, 4, 5, 6, 1, 0] rfl) w
          · replace hf := ite_t cd_5 hf
            obtain ⟨v4_2, ev4_2, hf⟩ := lt_some hf
            have hv4_2 : inR v4_2 := inR_of ev4_2 (inR_wrap _)
            refine lv_iinc (v := i2 v4_2) (lv' := [(4, .int (i2 v4_2)), (6, .int (i2 v6)), (0, .ref (ad 24)), (1, .int (i2 v1)), (2, .int (i2 v2)), (3, .int (i2 v3)), (5, .int (i2 v5))]) hx hb dX9_wordCode_76 hl (k := 5) rfl (by rw [ev4_2]; exact i2_add _ _) (by decide) rfl (fun ls hl => ?_)
            refine lv_goto (tgt := 85) hx hb dX9_wordCode_79 (by decide) ?_
            obtain ⟨v5_5, ev5_5, hf⟩ := lt_some hf
            have hv5_5 : inR v5_5 := inR_of ev5_5 (inR_wrap _)
            refine lv_iinc (v := i2 v5_5) (lv' := [(5, .int (i2 v5_5)), (4, .int (i2 v4_2)), (6, .int (i2 v6)), (0, .ref (ad 24)), (1, .int (i2 v1)), (2, .int (i2 v2)), (3, .int (i2 v3))]) hx hb dX9_wordCode_85 hl (k := 6) rfl (by rw [ev5_5]; exact i2_add _ _) (by decide) rfl (fun ls hl => ?_)
            refine lv_goto (tgt := 8) hx hb dX9_wordCode_88 (by decide) ?_
            exact HC v3 v4_2 v5_5 M _ _ _ (Option.some.inj hf).symm hv3 hv4_2 hv5_5 (lv_sub hl [3, 4, 5, 6, 1, 0] rfl) w
    · replace hf := ite_t cd_2 hf
      refine lv_iload hx hb dX9_wordCode_34 (lv_at hl 5 rfl) ?_
      refine lv_iload_n hx hb dX9_wordCode_36 rfl (lv_at hl 3 rfl) ?_
      refine g_icmp_ne (tgt := 42) X hv4 hv2 dX9_wordCode_37 (by decide) (fun cd_6 => ?_) (fun cd_6 => ?_)
      · replace hf := ite_f cd_6 hf
        obtain ⟨v3_2, ev3_2, hf⟩ := lt_some hf
        have hv3_2 : inR v3_2 := inR_of ev3_2 (inR_wrap _)
        refine lv_iinc (v := i2 v3_2) (lv' := [(3, .int (i2 v3_2)), (6, .int (i2 v6)), (0, .ref (ad 24)), (1, .int (i2 v1)), (2, .int (i2 v2)), (4, .int (i2 v4)), (5, .int (i2 v5))]) hx hb dX9_wordCode_42 hl (k := 4) rfl (by rw [ev3_2]; exact i2_add _ _) (by decide) rfl (fun ls hl => ?_)
        refine g_iconst X dX9_wordCode_45 ?_
        refine g_ist (v := 0) (lv' := [(4, .int (i2 0)), (3, .int (i2 v3_2)), (6, .int (i2 v6)), (0, .ref (ad 24)), (1, .int (i2 v1)), (2, .int (i2 v2)), (5, .int (i2 v5))]) X rfl dX9_wordCode_46 hl (by decide) rfl (fun ls hl => ?_)
        refine lv_goto (tgt := 85) hx hb dX9_wordCode_48 (by decide) ?_
        obtain ⟨v5_6, ev5_6, hf⟩ := lt_some hf
        have hv5_6 : inR v5_6 := inR_of ev5_6 (inR_wrap _)
        refine lv_iinc (v := i2 v5_6) (lv' := [(5, .int (i2 v5_6)), (4, .int (i2 0)), (3, .int (i2 v3_2)), (6, .int (i2 v6)), (0, .ref (ad 24)), (1, .int (i2 v1)), (2, .int (i2 v2))]) hx hb dX9_wordCode_85 hl (k := 6) rfl (by rw [ev5_6]; exact i2_add _ _) (by decide) rfl (fun ls hl => ?_)
        refine lv_goto (tgt := 8) hx hb dX9_wordCode_88 (by decide) ?_
        exact HC v3_2 0 v5_6 M _ _ _ (Option.some.inj hf).symm hv3_2 (inL rfl) hv5_6 (lv_sub hl [4, 5, 6, 2, 1, 0] rfl) w
      · replace hf := ite_t cd_6 hf
        refine lv_iload_n hx hb dX9_wordCode_40 rfl (lv_at hl 4 rfl) ?_
        exact HR v3 M _ _ _ _ (Option.some.inj hf).symm hv3 w dX9_wordCode_41
set_option maxRecDepth 100000 in
set_option maxHeartbeats 4000000 in
theorem l_X9_wordCode_8 (X : CX p s m args c cX9_wordCode 7 RX9 D aC ad sg A H0) (v1 : Int) (hv1 : inR v1) (v2 : Int) (hv2 : inR v2) {out : (Int × Int × Int × Mem) ⊕ (Int × Mem)} (HE : ∀ (y3 : Int) (y4 : Int) (y5 : Int) (M1 : Mem) (H : Heap) (locs : List Loc) (ls : Array Slot), out = .inl (y3, y4, y5, M1) → inR y3 → inR y4 → inR y5 → lv_has ls 7 [(0, .ref (ad 24)), (1, .int (i2 v1)), (2, .int (i2 v2)), (3, .int (i2 y3)), (4, .int (i2 y4)), (5, .int (i2 y5))] → WS D aC ad A H0 M1 H locs → W p l e rm_X9_wordCode s m args below meth c H locs 0 0 Q (F0 m 91 ls [])) (HR : ∀ (r : Int) (M1 : Mem) (H : Heap) (locs : List Loc) (pc : Nat) (ls : Array Slot), out = .inr (r, M1) → inR r → WS D aC ad A H0 M1 H locs → decode cX9_wordCode pc = .ok (.ireturn, 1) → W p l e rm_X9_wordCode s m args below meth c H locs 0 0 Q (F0 m pc ls [.int (i2 r)])) : ∀ (n : Nat) (v3 : Int) (v4 : Int) (v5 : Int) (M : Mem), whl (fun s => f_X9_wordCode_s8 v1 v2 s.1 s.2.1 s.2.2.1 s.2.2.2) n (v3, v4, v5, M) = some out → inR v3 → inR v4 → inR v5 → ∀ {H : Heap} {locs : List Loc} {ls : Array Slot}, lv_has ls 7 [(0, .ref (ad 24)), (1, .int (i2 v1)), (2, .int (i2 v2)), (3, .int (i2 v3)), (4, .int (i2 v4)), (5, .int (i2 v5))] → WS D aC ad A H0 M H locs → W p l e rm_X9_wordCode s m args below meth c H locs 0 0 Q (F0 m 8 ls []) := by
  intro n
  induction n with
  | zero => intro v3 v4 v5 M hf; exact (whl_zero hf).elim
  | succ n ih =>
    intro v3 v4 v5 M hf hv3 hv4 hv5 H locs ls hl w
    obtain ⟨o, hf, hk1, hk2⟩ := whl_step hf
    exact b_X9_wordCode_s8 X v1 hv1 v2 hv2 (fun y3 y4 y5 M1 H locs ls eo hy3 hy4 hy5 hl w => ih y3 y4 y5 M1 (hk1 _ eo) hy3 hy4 hy5 hl w) (fun y3 y4 y5 M1 H locs ls eo hy3 hy4 hy5 hl w => HE y3 y4 y5 M1 H locs ls (hk2 _ eo).symm hy3 hy4 hy5 hl w) (fun r M1 H locs pc ls eo hP w dg => HR r M1 H locs pc ls (hk2 _ eo).symm hP w dg) v3 hv3 v4 hv4 v5 hv5 M hf hl w
set_option maxRecDepth 100000 in
set_option maxHeartbeats 4000000 in
theorem b_X9_wordCode_j91 (X : CX p s m args c cX9_wordCode 7 RX9 D aC ad sg A H0) {o : Int × Mem} (HR : ∀ (r : Int) (M1 : Mem) (H : Heap) (locs : List Loc) (pc : Nat) (ls : Array Slot), o = (r, M1) → inR r → WS D aC ad A H0 M1 H locs → decode cX9_wordCode pc = .ok (.ireturn, 1) → W p l e rm_X9_wordCode s m args below meth c H locs 0 0 Q (F0 m pc ls [.int (i2 r)])) (M : Mem) (hf : f_X9_wordCode_j91 M = some o) {H : Heap} {locs : List Loc} {ls : Array Slot} (hl : lv_has ls 7 []) (w : WS D aC ad A H0 M H locs) : W p l e rm_X9_wordCode s m args below meth c H locs 0 0 Q (F0 m 91 ls []) := by
  have hx := X.1.1
  have hb := X.1.2.1
  unfold f_X9_wordCode_j91 at hf
  refine g_bipush X dX9_wordCode_91 (by decide) ?_
  exact HR (-2) M _ _ _ _ (Option.some.inj hf).symm (inL rfl) w dX9_wordCode_93
set_option maxRecDepth 100000 in
set_option maxHeartbeats 4000000 in
theorem b_X9_wordCode_0 (X : CX p s m args c cX9_wordCode 7 RX9 D aC ad sg A H0) {o : Int × Mem} (HR : ∀ (r : Int) (M1 : Mem) (H : Heap) (locs : List Loc) (pc : Nat) (ls : Array Slot), o = (r, M1) → inR r → WS D aC ad A H0 M1 H locs → decode cX9_wordCode pc = .ok (.ireturn, 1) → W p l e rm_X9_wordCode s m args below meth c H locs 0 0 Q (F0 m pc ls [.int (i2 r)])) (p1 : Int) (hp1 : inR p1) (p2 : Int) (hp2 : inR p2) (M : Mem) (hf : f_X9_wordCode p1 p2 M = some o) {H : Heap} {locs : List Loc} {ls : Array Slot} (hl : lv_has ls 7 [(0, .ref (ad 24)), (1, .int (i2 p1)), (2, .int (i2 p2))]) (w : WS D aC ad A H0 M H locs) : W p l e rm_X9_wordCode s m args below meth c H locs 0 0 Q (F0 m 0 ls []) := by
  have hx := X.1.1
  have hb := X.1.2.1
  unfold f_X9_wordCode at hf
  refine g_iconst X dX9_wordCode_0 ?_
  refine g_istn (v := 0) (lv' := [(3, .int (i2 0)), (0, .ref (ad 24)), (1, .int (i2 p1)), (2, .int (i2 p2))]) X rfl dX9_wordCode_1 rfl hl (by decide) rfl (fun ls hl => ?_)
  refine g_iconst X dX9_wordCode_2 ?_
  refine g_ist (v := 0) (lv' := [(4, .int (i2 0)), (3, .int (i2 0)), (0, .ref (ad 24)), (1, .int (i2 p1)), (2, .int (i2 p2))]) X rfl dX9_wordCode_3 hl (by decide) rfl (fun ls hl => ?_)
  refine g_iconst X dX9_wordCode_5 ?_
  refine g_ist (v := 0) (lv' := [(5, .int (i2 0)), (4, .int (i2 0)), (3, .int (i2 0)), (0, .ref (ad 24)), (1, .int (i2 p1)), (2, .int (i2 p2))]) X rfl dX9_wordCode_6 hl (by decide) rfl (fun ls hl => ?_)
  obtain ⟨q, hq, h1, h2⟩ := lpr_some hf
  exact l_X9_wordCode_8 X p1 hp1 p2 hp2 (out := q) (fun y3 y4 y5 M1 H locs ls eq hy3 hy4 hy5 hl w => b_X9_wordCode_j91 X  HR M1 (h1 _ eq) (lv_sub hl [] rfl) w) (fun r M1 H locs pc ls eq hP w dg => HR r M1 H locs pc ls (Option.some.inj (h2 _ eq)).symm hP w dg) FU 0 0 0 M hq (inL rfl) (inL rfl) (inL rfl) (lv_sub hl [3, 4, 5, 2, 1, 0] rfl) w
set_option maxRecDepth 100000 in
set_option maxHeartbeats 4000000 in
theorem k_X9_wordCode {l : Launch} {D : va_G} {aC : Nat → ClassId} {ad : Nat → Nat} {sg : SG} (hi : Inj ad) (p1 : Int) (hp1 : inR p1) (p2 : Int) (hp2 : inR p2) {M : Mem} (hM : inM M) {r : Int} {M' : Mem} (hf : f_X9_wordCode p1 p2 M = some (r, M')) : MetI l D aC ad sg yX9_wordCode cX9_wordCode 7 (some .int) rm_X9_wordCode 0 0 [.ref (ad 24), .int (i2 p1), .int (i2 p2)] M r M' := by
  refine MetI.ofI (by decide +kernel) (nle rfl) hi hM (fun p e s m args below meth c Q H0 ls X hl w hret => ?_)
  exact b_X9_wordCode_0 X  (fun r1 M1 H locs pc ls eo hP w dg => by cases eo; exact hret H locs pc ls hP w dg) p1 hp1 p2 hp2 M hf hl w
set_option maxRecDepth 100000 in
set_option maxHeartbeats 4000000 in
theorem b_X9_add_0 (X : CX p s m args c cX9_add 4 RX9 D aC ad sg A H0) {o : Mem} (HR : ∀ (M1 : Mem) (H : Heap) (locs : List Loc) (pc : Nat) (ls : Array Slot), o = M1 → WS D aC ad A H0 M1 H locs → decode cX9_add pc = .ok (.return_, 1) → W p l e rm_X9_add s m args below meth c H locs 0 0 Q (F0 m pc ls [])) (p1 : Int) (hp1 : inR p1) (p2 : Int) (hp2 : inR p2) (p3 : Int) (hp3 : inR p3) (M : Mem) (hf : f_X9_add p1 p2 p3 M = some o) {H : Heap} {locs : List Loc} {ls : Array Slot} (hl : lv_has ls 4 [(0, .ref (ad 24)), (1, .int (i2 p1)), (2, .int (i2 p2)), (3, .int (i2 p3))]) (w : WS D aC ad A H0 M H locs) : W p l e rm_X9_add s m args below meth c H locs 0 0 Q (F0 m 0 ls []) := by
  have hx := X.1.1
  have hb := X.1.2.1
  unfold f_X9_add at hf
  refine lv_aload_n hx hb dX9_add_0 rfl (lv_at hl 0 rfl) ?_
  refine g_geti X w fg_X9_29 KD_24 FR_24_2 dX9_add_1 ?_
  refine lv_aload_n hx hb dX9_add_4 rfl (lv_at hl 0 rfl) ?_
  refine g_getr X w fg_X9_15 KD_24 FR_24_3 dX9_add_5 ?_
  refine g_alen X w KD_26 (by decide) dX9_add_8 ?_
  refine g_icmp_ge (tgt := 52) X (w.2.2 _ _) (inL rfl) dX9_add_9 (by decide) (fun cd => ?_) (fun cd => ?_)
  · replace hf := ite_t cd hf
    exact HR M _ _ _ _ (Option.some.inj hf).symm w dX9_add_52
  · replace hf := ite_f cd hf
    refine lv_aload_n hx hb dX9_add_12 rfl (lv_at hl 0 rfl) ?_
    refine g_getr X w fg_X9_15 KD_24 FR_24_3 dX9_add_13 ?_
    refine lv_aload_n hx hb dX9_add_16 rfl (lv_at hl 0 rfl) ?_
    refine g_geti X w fg_X9_29 KD_24 FR_24_2 dX9_add_17 ?_
    refine lv_iload_n hx hb dX9_add_20 rfl (lv_at hl 1 rfl) ?_
    obtain ⟨hg, hf⟩ := gd_some hf
    obtain ⟨M_2, eM_2, hf⟩ := lt_some hf
    refine g_iast X w KD_26 (w.2.2 _ _) hg hp1 dX9_add_21 (fun H locs w_M_2 => ?_)
    rw [← eM_2] at w_M_2
    refine lv_aload_n hx hb dX9_add_22 rfl (lv_at hl 0 rfl) ?_
    refine g_getr X w_M_2 fg_X9_19 KD_24 FR_24_4 dX9_add_23 ?_
    refine lv_aload_n hx hb dX9_add_26 rfl (lv_at hl 0 rfl) ?_
    refine g_geti X w_M_2 fg_X9_29 KD_24 FR_24_2 dX9_add_27 ?_
    refine lv_iload_n hx hb dX9_add_30 rfl (lv_at hl 2 rfl) ?_
    obtain ⟨hg_2, hf⟩ := gd_some hf
    obtain ⟨M_3, eM_3, hf⟩ := lt_some hf
    refine g_iast X w_M_2 KD_27 (w_M_2.2.2 _ _) hg_2 hp2 dX9_add_31 (fun H locs w_M_3 => ?_)
    rw [← eM_3] at w_M_3
    refine lv_aload_n hx hb dX9_add_32 rfl (lv_at hl 0 rfl) ?_
    refine g_getr X w_M_3 fg_X9_22 KD_24 FR_24_5 dX9_add_33 ?_
    refine lv_aload_n hx hb dX9_add_36 rfl (lv_at hl 0 rfl) ?_
    refine g_geti X w_M_3 fg_X9_29 KD_24 FR_24_2 dX9_add_37 ?_
    refine lv_iload_n hx hb dX9_add_40 rfl (lv_at hl 3 rfl) ?_
    obtain ⟨hg_3, hf⟩ := gd_some hf
    obtain ⟨M_4, eM_4, hf⟩ := lt_some hf
    refine g_iast X w_M_3 KD_28 (w_M_3.2.2 _ _) hg_3 hp3 dX9_add_41 (fun H locs w_M_4 => ?_)
    rw [← eM_4] at w_M_4
    refine lv_aload_n hx hb dX9_add_42 rfl (lv_at hl 0 rfl) ?_
    refine lv_dup hx hb dX9_add_43 rfl ?_
    refine g_geti X w_M_4 fg_X9_29 KD_24 FR_24_2 dX9_add_44 ?_
    refine g_iconst X dX9_add_47 ?_
    refine g_iadd X dX9_add_48 ?_
    obtain ⟨M_5, eM_5, hf⟩ := lt_some hf
    refine g_puti X w_M_4 fp_X9_29 KD_24 FR_24_2 (inR_wrap _) dX9_add_49 (fun H locs w_M_5 => ?_)
    rw [← eM_5] at w_M_5
    exact HR M_5 _ _ _ _ (Option.some.inj hf).symm w_M_5 dX9_add_52
set_option maxRecDepth 100000 in
set_option maxHeartbeats 4000000 in
theorem k_X9_add {l : Launch} {D : va_G} {aC : Nat → ClassId} {ad : Nat → Nat} {sg : SG} (hi : Inj ad) (p1 : Int) (hp1 : inR p1) (p2 : Int) (hp2 : inR p2) (p3 : Int) (hp3 : inR p3) {M : Mem} (hM : inM M) {M' : Mem} (hf : f_X9_add p1 p2 p3 M = some M') : MetV l D aC ad sg yX9_add cX9_add 4 rm_X9_add 0 0 [.ref (ad 24), .int (i2 p1), .int (i2 p2), .int (i2 p3)] M M' := by
  refine MetV.of (by decide +kernel) (nle rfl) hi hM (fun p e s m args below meth c Q H0 ls X hl w hret => ?_)
  exact b_X9_add_0 X  (fun M1 H locs pc ls eo w dg => by cases eo; exact hret H locs pc ls w dg) p1 hp1 p2 hp2 p3 hp3 M hf hl w
set_option maxRecDepth 100000 in
set_option maxHeartbeats 4000000 in
theorem b_X9_isDigit_0 (X : CX p s m args c cX9_isDigit 1 RX9 D aC ad sg A H0) {M : Mem} {o : Int} (HR : ∀ (r : Int) (H : Heap) (locs : List Loc) (pc : Nat) (ls : Array Slot), o = r → isZ r → WS D aC ad A H0 M H locs → decode cX9_isDigit pc = .ok (.ireturn, 1) → W p l e rm_X9_isDigit s m args below meth c H locs 0 0 Q (F0 m pc ls [.int (i2 r)])) (p0 : Int) (hp0 : inR p0) (hf : f_X9_isDigit p0 M = some o) {H : Heap} {locs : List Loc} {ls : Array Slot} (hl : lv_has ls 1 [(0, .int (i2 p0))]) (w : WS D aC ad A H0 M H locs) : W p l e rm_X9_isDigit s m args below meth c H locs 0 0 Q (F0 m 0 ls []) := by
  have hx := X.1.1
  have hb := X.1.2.1
  unfold f_X9_isDigit at hf
  refine lv_iload_n hx hb dX9_isDigit_0 rfl (lv_at hl 0 rfl) ?_
  refine g_bipush X dX9_isDigit_1 (by decide) ?_
  refine g_icmp_lt (tgt := 16) X hp0 (inL rfl) dX9_isDigit_3 (by decide) (fun cd => ?_) (fun cd => ?_)
  · replace hf := ite_t cd hf
    refine g_iconst X dX9_isDigit_16 ?_
    exact HR 0 _ _ _ _ (Option.some.inj hf).symm (Or.inl rfl) w dX9_isDigit_17
  · replace hf := ite_f cd hf
    refine lv_iload_n hx hb dX9_isDigit_6 rfl (lv_at hl 0 rfl) ?_
    refine g_bipush X dX9_isDigit_7 (by decide) ?_
    refine g_icmp_gt (tgt := 16) X hp0 (inL rfl) dX9_isDigit_9 (by decide) (fun cd_2 => ?_) (fun cd_2 => ?_)
    · replace hf := ite_t cd_2 hf
      refine g_iconst X dX9_isDigit_16 ?_
      exact HR 0 _ _ _ _ (Option.some.inj hf).symm (Or.inl rfl) w dX9_isDigit_17
    · replace hf := ite_f cd_2 hf
      refine g_iconst X dX9_isDigit_12 ?_
      refine lv_goto (tgt := 17) hx hb dX9_isDigit_13 (by decide) ?_
      exact HR 1 _ _ _ _ (Option.some.inj hf).symm (Or.inr rfl) w dX9_isDigit_17
set_option maxRecDepth 100000 in
set_option maxHeartbeats 4000000 in
theorem k_X9_isDigit {l : Launch} {D : va_G} {aC : Nat → ClassId} {ad : Nat → Nat} {sg : SG} (hi : Inj ad) (p0 : Int) (hp0 : inR p0) {M : Mem} (hM : inM M) {r : Int} (hf : f_X9_isDigit p0 M = some r) : MetI l D aC ad sg yX9_isDigit cX9_isDigit 1 (some .boolean) rm_X9_isDigit 0 0 [.int (i2 p0)] M r M := by
  refine MetI.ofZ (by decide +kernel) (nle rfl) hi hM (fun p e s m args below meth c Q H0 ls X hl w hret => ?_)
  exact b_X9_isDigit_0 X  (fun r1 H locs pc ls eo hP w dg => by cases eo; exact hret H locs pc ls hP w dg) p0 hp0 hf hl w
set_option maxRecDepth 100000 in
set_option maxHeartbeats 4000000 in
theorem b_X9_scanNumber_s4 (X : CX p s m args c cX9_scanNumber 4 RX9 D aC ad sg A H0) (v1 : Int) (hv1 : inR v1) {M : Mem} {o : (Int × Int) ⊕ (Int × Int)} (HC : ∀ (y2 : Int) (y3 : Int) (H : Heap) (locs : List Loc) (ls : Array Slot), o = .inl (y2, y3) → inR y2 → inR y3 → lv_has ls 4 [(0, .ref (ad 24)), (1, .int (i2 v1)), (2, .int (i2 y2)), (3, .int (i2 y3))] → WS D aC ad A H0 M H locs → W p l e rm_X9_scanNumber s m args below meth c H locs 0 0 Q (F0 m 4 ls [])) (HE : ∀ (y2 : Int) (y3 : Int) (H : Heap) (locs : List Loc) (ls : Array Slot), o = .inr (y2, y3) → inR y2 → inR y3 → lv_has ls 4 [(0, .ref (ad 24)), (1, .int (i2 v1)), (2, .int (i2 y2)), (3, .int (i2 y3))] → WS D aC ad A H0 M H locs → W p l e rm_X9_scanNumber s m args below meth c H locs 0 0 Q (F0 m 52 ls [])) (v2 : Int) (hv2 : inR v2) (v3 : Int) (hv3 : inR v3) (hf : f_X9_scanNumber_s4 v1 M v2 v3 = some o) {H : Heap} {locs : List Loc} {ls : Array Slot} (hl : lv_has ls 4 [(0, .ref (ad 24)), (1, .int (i2 v1)), (2, .int (i2 v2)), (3, .int (i2 v3))]) (w : WS D aC ad A H0 M H locs) : W p l e rm_X9_scanNumber s m args below meth c H locs 0 0 Q (F0 m 4 ls []) := by
  have hx := X.1.1
  have hb := X.1.2.1
  unfold f_X9_scanNumber_s4 at hf
  refine lv_iload_n hx hb dX9_scanNumber_4 rfl (lv_at hl 3 rfl) ?_
  refine lv_aload_n hx hb dX9_scanNumber_5 rfl (lv_at hl 0 rfl) ?_
  refine g_geti X w fg_X9_25 KD_24 FR_24_0 dX9_scanNumber_6 ?_
  refine g_icmp_ge (tgt := 52) X hv3 (w.2.2 _ _) dX9_scanNumber_9 (by decide) (fun cd => ?_) (fun cd => ?_)
  · replace hf := ite_t cd hf
    exact HE v2 v3 _ _ _ (Option.some.inj hf).symm hv2 hv3 hl w
  · replace hf := ite_f cd hf
    refine lv_aload_n hx hb dX9_scanNumber_12 rfl (lv_at hl 0 rfl) ?_
    refine g_getr X w fg_X9_11 KD_24 FR_24_1 dX9_scanNumber_13 ?_
    refine lv_iload_n hx hb dX9_scanNumber_16 rfl (lv_at hl 3 rfl) ?_
    obtain ⟨hg, hf⟩ := gd_some hf
    refine g_cald X w KD_25 hv3 hg dX9_scanNumber_17 ?_
    obtain ⟨r, hc, hf⟩ := obn_some hf
    refine g_csi (As := [.int (i2 (M 25 v3.toNat))]) (rest := []) X w (k_X9_isDigit X.2.2.1 (M 25 v3.toNat) (w.2.2 _ _) w.2.2 hc) lk_X9_53 ⟨rfl, rfl⟩ ⟨nle rfl, nle rfl⟩ ⟨nle rfl, nle rfl⟩ hl.1 rfl (nle rfl) dX9_scanNumber_18 (fun hr H locs w => ?_)
    refine g_if_eq (tgt := 52) X hr dX9_scanNumber_21 (by decide) (fun cd_2 => ?_) (fun cd_2 => ?_)
    · replace hf := ite_t cd_2 hf
      exact HE v2 v3 _ _ _ (Option.some.inj hf).symm hv2 hv3 hl w
    · replace hf := ite_f cd_2 hf
      refine lv_iload_n hx hb dX9_scanNumber_24 rfl (lv_at hl 3 rfl) ?_
      refine lv_iload_n hx hb dX9_scanNumber_25 rfl (lv_at hl 1 rfl) ?_
      refine g_iconst X dX9_scanNumber_26 ?_
      refine g_iadd X dX9_scanNumber_27 ?_
      refine g_icmp_ge (tgt := 46) X hv3 (inR_wrap _) dX9_scanNumber_28 (by decide) (fun cd_3 => ?_) (fun cd_3 => ?_)
      · replace hf := ite_t cd_3 hf
        obtain ⟨v3_2, ev3_2, hf⟩ := lt_some hf
        have hv3_2 : inR v3_2 := inR_of ev3_2 (inR_wrap _)
        refine lv_iinc (v := i2 v3_2) (lv' := [(3, .int (i2 v3_2)), (0, .ref (ad 24)), (1, .int (i2 v1)), (2, .int (i2 v2))]) hx hb dX9_scanNumber_46 hl (k := 3) rfl (by rw [ev3_2]; exact i2_add _ _) (by decide) rfl (fun ls hl => ?_)
        refine lv_goto (tgt := 4) hx hb dX9_scanNumber_49 (by decide) ?_
        exact HC v2 v3_2 _ _ _ (Option.some.inj hf).symm hv2 hv3_2 (lv_sub hl [1, 2, 3, 0] rfl) w
      · replace hf := ite_f cd_3 hf
        refine g_bipush X dX9_scanNumber_31 (by decide) ?_
        refine lv_iload_n hx hb dX9_scanNumber_33 rfl (lv_at hl 2 rfl) ?_
        refine g_imul X dX9_scanNumber_34 ?_
        refine lv_aload_n hx hb dX9_scanNumber_35 rfl (lv_at hl 0 rfl) ?_
        refine g_getr X w fg_X9_11 KD_24 FR_24_1 dX9_scanNumber_36 ?_
        refine lv_iload_n hx hb dX9_scanNumber_39 rfl (lv_at hl 3 rfl) ?_
        obtain ⟨hg_2, hf⟩ := gd_some hf
        refine g_cald X w KD_25 hv3 hg_2 dX9_scanNumber_40 ?_
        refine g_iadd X dX9_scanNumber_41 ?_
        refine g_bipush X dX9_scanNumber_42 (by decide) ?_
        refine g_isub X dX9_scanNumber_44 ?_
        obtain ⟨v2_2, ev2_2, hf⟩ := lt_some hf
        have hv2_2 : inR v2_2 := inR_of ev2_2 (inR_wrap _)
        refine g_istn (v := v2_2) (lv' := [(2, .int (i2 v2_2)), (0, .ref (ad 24)), (1, .int (i2 v1)), (3, .int (i2 v3))]) X ev2_2 dX9_scanNumber_45 rfl hl (by decide) rfl (fun ls hl => ?_)
        obtain ⟨v3_3, ev3_3, hf⟩ := lt_some hf
        have hv3_3 : inR v3_3 := inR_of ev3_3 (inR_wrap _)
        refine lv_iinc (v := i2 v3_3) (lv' := [(3, .int (i2 v3_3)), (2, .int (i2 v2_2)), (0, .ref (ad 24)), (1, .int (i2 v1))]) hx hb dX9_scanNumber_46 hl (k := 3) rfl (by rw [ev3_3]; exact i2_add _ _) (by decide) rfl (fun ls hl => ?_)
        refine lv_goto (tgt := 4) hx hb dX9_scanNumber_49 (by decide) ?_
        exact HC v2_2 v3_3 _ _ _ (Option.some.inj hf).symm hv2_2 hv3_3 (lv_sub hl [2, 3, 1, 0] rfl) w
set_option maxRecDepth 100000 in
set_option maxHeartbeats 4000000 in
theorem l_X9_scanNumber_4 (X : CX p s m args c cX9_scanNumber 4 RX9 D aC ad sg A H0) (v1 : Int) (hv1 : inR v1) {M : Mem} {out : Int × Int} (HE : ∀ (y2 : Int) (y3 : Int) (H : Heap) (locs : List Loc) (ls : Array Slot), out = (y2, y3) → inR y2 → inR y3 → lv_has ls 4 [(0, .ref (ad 24)), (1, .int (i2 v1)), (2, .int (i2 y2)), (3, .int (i2 y3))] → WS D aC ad A H0 M H locs → W p l e rm_X9_scanNumber s m args below meth c H locs 0 0 Q (F0 m 52 ls [])) : ∀ (n : Nat) (v2 : Int) (v3 : Int), whl (fun s => f_X9_scanNumber_s4 v1 M s.1 s.2) n (v2, v3) = some out → inR v2 → inR v3 → ∀ {H : Heap} {locs : List Loc} {ls : Array Slot}, lv_has ls 4 [(0, .ref (ad 24)), (1, .int (i2 v1)), (2, .int (i2 v2)), (3, .int (i2 v3))] → WS D aC ad A H0 M H locs → W p l e rm_X9_scanNumber s m args below meth c H locs 0 0 Q (F0 m 4 ls []) := by
  intro n
  induction n with
  | zero => intro v2 v3 hf; exact (whl_zero hf).elim
  | succ n ih =>
    intro v2 v3 hf hv2 hv3 H locs ls hl w
    obtain ⟨o, hf, hk1, hk2⟩ := whl_step hf
    exact b_X9_scanNumber_s4 X v1 hv1 (fun y2 y3 H locs ls eo hy2 hy3 hl w => ih y2 y3 (hk1 _ eo) hy2 hy3 hl w) (fun y2 y3 H locs ls eo hy2 hy3 hl w => HE y2 y3 H locs ls (hk2 _ eo).symm hy2 hy3 hl w) v2 hv2 v3 hv3 hf hl w
set_option maxRecDepth 100000 in
set_option maxHeartbeats 4000000 in
theorem b_X9_scanNumber_j52 (X : CX p s m args c cX9_scanNumber 4 RX9 D aC ad sg A H0) {o : Int × Mem} (HR : ∀ (r : Int) (M1 : Mem) (H : Heap) (locs : List Loc) (pc : Nat) (ls : Array Slot), o = (r, M1) → inR r → WS D aC ad A H0 M1 H locs → decode cX9_scanNumber pc = .ok (.ireturn, 1) → W p l e rm_X9_scanNumber s m args below meth c H locs 0 0 Q (F0 m pc ls [.int (i2 r)])) (v1 : Int) (hv1 : inR v1) (v2 : Int) (hv2 : inR v2) (v3 : Int) (hv3 : inR v3) (M : Mem) (hf : f_X9_scanNumber_j52 v1 v2 v3 M = some o) {H : Heap} {locs : List Loc} {ls : Array Slot} (hl : lv_has ls 4 [(0, .ref (ad 24)), (1, .int (i2 v1)), (2, .int (i2 v2)), (3, .int (i2 v3))]) (w : WS D aC ad A H0 M H locs) : W p l e rm_X9_scanNumber s m args below meth c H locs 0 0 Q (F0 m 52 ls []) := by
  have hx := X.1.1
  have hb := X.1.2.1
  unfold f_X9_scanNumber_j52 at hf
  refine lv_aload_n hx hb dX9_scanNumber_52 rfl (lv_at hl 0 rfl) ?_
  refine lv_iload_n hx hb dX9_scanNumber_53 rfl (lv_at hl 3 rfl) ?_
  refine lv_iload_n hx hb dX9_scanNumber_54 rfl (lv_at hl 1 rfl) ?_
  refine g_iconst X dX9_scanNumber_55 ?_
  refine g_iadd X dX9_scanNumber_56 ?_
  refine g_icmp_le (tgt := 65) X hv3 (inR_wrap _) dX9_scanNumber_57 (by decide) (fun cd => ?_) (fun cd => ?_)
  · replace hf := ite_t cd hf
    refine g_bipush X dX9_scanNumber_65 (by decide) ?_
    refine lv_iload_n hx hb dX9_scanNumber_67 rfl (lv_at hl 1 rfl) ?_
    refine lv_iload_n hx hb dX9_scanNumber_68 rfl (lv_at hl 2 rfl) ?_
    obtain ⟨M_2, hc, hf⟩ := obn_some hf
    refine g_cvv (As := [.int (i2 (-3)), .int (i2 v1), .int (i2 v2)]) (rest := []) X w (k_X9_add X.2.2.1 (-3) (inL rfl) v1 hv1 v2 hv2 w.2.2 hc) lk_X9_42 cl_9 KD_24 ⟨rfl, rfl⟩ ⟨nle rfl, nle rfl⟩ ⟨nle rfl, nle rfl⟩ hl.1 rfl (nle rfl) dX9_scanNumber_69 (fun H locs w_M_2 => ?_)
    refine lv_iload_n hx hb dX9_scanNumber_72 rfl (lv_at hl 3 rfl) ?_
    refine lv_iload_n hx hb dX9_scanNumber_73 rfl (lv_at hl 1 rfl) ?_
    refine g_isub X dX9_scanNumber_74 ?_
    exact HR (wrap (v3 - v1)) M_2 _ _ _ _ (Option.some.inj hf).symm (inR_wrap _) w_M_2 dX9_scanNumber_75
  · replace hf := ite_f cd hf
    refine g_bipush X dX9_scanNumber_60 (by decide) ?_
    refine lv_goto (tgt := 67) hx hb dX9_scanNumber_62 (by decide) ?_
    refine lv_iload_n hx hb dX9_scanNumber_67 rfl (lv_at hl 1 rfl) ?_
    refine lv_iload_n hx hb dX9_scanNumber_68 rfl (lv_at hl 2 rfl) ?_
    obtain ⟨M_3, hc, hf⟩ := obn_some hf
    refine g_cvv (As := [.int (i2 (-2)), .int (i2 v1), .int (i2 v2)]) (rest := []) X w (k_X9_add X.2.2.1 (-2) (inL rfl) v1 hv1 v2 hv2 w.2.2 hc) lk_X9_42 cl_9 KD_24 ⟨rfl, rfl⟩ ⟨nle rfl, nle rfl⟩ ⟨nle rfl, nle rfl⟩ hl.1 rfl (nle rfl) dX9_scanNumber_69 (fun H locs w_M_3 => ?_)
    refine lv_iload_n hx hb dX9_scanNumber_72 rfl (lv_at hl 3 rfl) ?_
    refine lv_iload_n hx hb dX9_scanNumber_73 rfl (lv_at hl 1 rfl) ?_
    refine g_isub X dX9_scanNumber_74 ?_
    exact HR (wrap (v3 - v1)) M_3 _ _ _ _ (Option.some.inj hf).symm (inR_wrap _) w_M_3 dX9_scanNumber_75
set_option maxRecDepth 100000 in
set_option maxHeartbeats 4000000 in
theorem b_X9_scanNumber_0 (X : CX p s m args c cX9_scanNumber 4 RX9 D aC ad sg A H0) {o : Int × Mem} (HR : ∀ (r : Int) (M1 : Mem) (H : Heap) (locs : List Loc) (pc : Nat) (ls : Array Slot), o = (r, M1) → inR r → WS D aC ad A H0 M1 H locs → decode cX9_scanNumber pc = .ok (.ireturn, 1) → W p l e rm_X9_scanNumber s m args below meth c H locs 0 0 Q (F0 m pc ls [.int (i2 r)])) (p1 : Int) (hp1 : inR p1) (M : Mem) (hf : f_X9_scanNumber p1 M = some o) {H : Heap} {locs : List Loc} {ls : Array Slot} (hl : lv_has ls 4 [(0, .ref (ad 24)), (1, .int (i2 p1))]) (w : WS D aC ad A H0 M H locs) : W p l e rm_X9_scanNumber s m args below meth c H locs 0 0 Q (F0 m 0 ls []) := by
  have hx := X.1.1
  have hb := X.1.2.1
  unfold f_X9_scanNumber at hf
  refine g_iconst X dX9_scanNumber_0 ?_
  refine g_istn (v := 0) (lv' := [(2, .int (i2 0)), (0, .ref (ad 24)), (1, .int (i2 p1))]) X rfl dX9_scanNumber_1 rfl hl (by decide) rfl (fun ls hl => ?_)
  refine lv_iload_n hx hb dX9_scanNumber_2 rfl (lv_at hl 2 rfl) ?_
  refine g_istn (v := p1) (lv' := [(3, .int (i2 p1)), (2, .int (i2 0)), (0, .ref (ad 24)), (1, .int (i2 p1))]) X rfl dX9_scanNumber_3 rfl hl (by decide) rfl (fun ls hl => ?_)
  obtain ⟨q, hq, h1⟩ := obn_some hf
  exact l_X9_scanNumber_4 X p1 hp1 (out := q) (fun y2 y3 H locs ls eq hy2 hy3 hl w => b_X9_scanNumber_j52 X  HR p1 hp1 y2 hy2 y3 hy3 M (by subst eq; exact h1) hl w)  FU 0 p1 hq (inL rfl) hp1 (lv_sub hl [2, 3, 1, 0] rfl) w
set_option maxRecDepth 100000 in
set_option maxHeartbeats 4000000 in
theorem k_X9_scanNumber {l : Launch} {D : va_G} {aC : Nat → ClassId} {ad : Nat → Nat} {sg : SG} (hi : Inj ad) (p1 : Int) (hp1 : inR p1) {M : Mem} (hM : inM M) {r : Int} {M' : Mem} (hf : f_X9_scanNumber p1 M = some (r, M')) : MetI l D aC ad sg yX9_scanNumber cX9_scanNumber 4 (some .int) rm_X9_scanNumber 0 0 [.ref (ad 24), .int (i2 p1)] M r M' := by
  refine MetI.ofI (by decide +kernel) (nle rfl) hi hM (fun p e s m args below meth c Q H0 ls X hl w hret => ?_)
  exact b_X9_scanNumber_0 X  (fun r1 M1 H locs pc ls eo hP w dg => by cases eo; exact hret H locs pc ls hP w dg) p1 hp1 M hf hl w
set_option maxRecDepth 100000 in
set_option maxHeartbeats 4000000 in
theorem b_X9_scanToken_j108 (X : CX p s m args c cX9_scanToken 4 RX9 D aC ad sg A H0) {o : Int × Mem} (HR : ∀ (r : Int) (M1 : Mem) (H : Heap) (locs : List Loc) (pc : Nat) (ls : Array Slot), o = (r, M1) → inR r → WS D aC ad A H0 M1 H locs → decode cX9_scanToken pc = .ok (.ireturn, 1) → W p l e rm_X9_scanToken s m args below meth c H locs 0 0 Q (F0 m pc ls [.int (i2 r)])) (v1 : Int) (hv1 : inR v1) (v2 : Int) (hv2 : inR v2) (s0 : Int) (hs0 : inR s0) (M : Mem) (hf : f_X9_scanToken_j108 v1 v2 s0 M = some o) {H : Heap} {locs : List Loc} {ls : Array Slot} (hl : lv_has ls 4 [(0, .ref (ad 24)), (1, .int (i2 v1)), (2, .int (i2 v2))]) (w : WS D aC ad A H0 M H locs) : W p l e rm_X9_scanToken s m args below meth c H locs 0 0 Q (F0 m 108 ls [.int (i2 s0)]) := by
  have hx := X.1.1
  have hb := X.1.2.1
  unfold f_X9_scanToken_j108 at hf
  refine g_istn (v := s0) (lv' := [(3, .int (i2 s0)), (0, .ref (ad 24)), (1, .int (i2 v1)), (2, .int (i2 v2))]) X rfl dX9_scanToken_108 rfl hl (by decide) rfl (fun ls hl => ?_)
  refine lv_aload_n hx hb dX9_scanToken_109 rfl (lv_at hl 1 rfl) ?_
  refine lv_iload_n hx hb dX9_scanToken_110 rfl (lv_at hl 0 rfl) ?_
  refine g_if_eq (tgt := 118) X hs0 dX9_scanToken_111 (by decide) (fun cd => ?_) (fun cd => ?_)
  · replace hf := ite_t cd hf
    refine g_bipush X dX9_scanToken_118 (by decide) ?_
    refine lv_iload_n hx hb dX9_scanToken_120 rfl (lv_at hl 2 rfl) ?_
    refine g_iconst X dX9_scanToken_121 ?_
    obtain ⟨M_2, hc, hf⟩ := obn_some hf
    refine g_cvv (As := [.int (i2 (-2)), .int (i2 v1), .int (i2 0)]) (rest := []) X w (k_X9_add X.2.2.1 (-2) (inL rfl) v1 hv1 0 (inL rfl) w.2.2 hc) lk_X9_42 cl_9 KD_24 ⟨rfl, rfl⟩ ⟨nle rfl, nle rfl⟩ ⟨nle rfl, nle rfl⟩ hl.1 rfl (nle rfl) dX9_scanToken_122 (fun H locs w_M_2 => ?_)
    refine g_iconst X dX9_scanToken_125 ?_
    exact HR 1 M_2 _ _ _ _ (Option.some.inj hf).symm (inL rfl) w_M_2 dX9_scanToken_126
  · replace hf := ite_f cd hf
    refine lv_iload_n hx hb dX9_scanToken_114 rfl (lv_at hl 3 rfl) ?_
    refine lv_goto (tgt := 120) hx hb dX9_scanToken_115 (by decide) ?_
    refine lv_iload_n hx hb dX9_scanToken_120 rfl (lv_at hl 2 rfl) ?_
    refine g_iconst X dX9_scanToken_121 ?_
    obtain ⟨M_3, hc, hf⟩ := obn_some hf
    refine g_cvv (As := [.int (i2 v2), .int (i2 v1), .int (i2 0)]) (rest := []) X w (k_X9_add X.2.2.1 v2 hv2 v1 hv1 0 (inL rfl) w.2.2 hc) lk_X9_42 cl_9 KD_24 ⟨rfl, rfl⟩ ⟨nle rfl, nle rfl⟩ ⟨nle rfl, nle rfl⟩ hl.1 rfl (nle rfl) dX9_scanToken_122 (fun H locs w_M_3 => ?_)
    refine g_iconst X dX9_scanToken_125 ?_
    exact HR 1 M_3 _ _ _ _ (Option.some.inj hf).symm (inL rfl) w_M_3 dX9_scanToken_126
set_option maxRecDepth 100000 in
set_option maxHeartbeats 4000000 in
theorem b_X9_scanToken_s16 (X : CX p s m args c cX9_scanToken 4 RX9 D aC ad sg A H0) (v1 : Int) (hv1 : inR v1) {M : Mem} {o : (Int) ⊕ (Int)} (HC : ∀ (y3 : Int) (H : Heap) (locs : List Loc) (ls : Array Slot), o = .inl y3 → inR y3 → lv_has ls 4 [(0, .ref (ad 24)), (1, .int (i2 v1)), (3, .int (i2 y3))] → WS D aC ad A H0 M H locs → W p l e rm_X9_scanToken s m args below meth c H locs 0 0 Q (F0 m 16 ls [])) (HE : ∀ (y3 : Int) (H : Heap) (locs : List Loc) (ls : Array Slot), o = .inr y3 → inR y3 → lv_has ls 4 [(0, .ref (ad 24)), (1, .int (i2 v1)), (3, .int (i2 y3))] → WS D aC ad A H0 M H locs → W p l e rm_X9_scanToken s m args below meth c H locs 0 0 Q (F0 m 42 ls [])) (v3 : Int) (hv3 : inR v3) (hf : f_X9_scanToken_s16 v1 M v3 = some o) {H : Heap} {locs : List Loc} {ls : Array Slot} (hl : lv_has ls 4 [(0, .ref (ad 24)), (1, .int (i2 v1)), (3, .int (i2 v3))]) (w : WS D aC ad A H0 M H locs) : W p l e rm_X9_scanToken s m args below meth c H locs 0 0 Q (F0 m 16 ls []) := by
  have hx := X.1.1
  have hb := X.1.2.1
  unfold f_X9_scanToken_s16 at hf
  refine lv_iload_n hx hb dX9_scanToken_16 rfl (lv_at hl 2 rfl) ?_
  refine lv_aload_n hx hb dX9_scanToken_17 rfl (lv_at hl 0 rfl) ?_
  refine g_geti X w fg_X9_25 KD_24 FR_24_0 dX9_scanToken_18 ?_
  refine g_icmp_ge (tgt := 42) X hv3 (w.2.2 _ _) dX9_scanToken_21 (by decide) (fun cd => ?_) (fun cd => ?_)
  · replace hf := ite_t cd hf
    exact HE v3 _ _ _ (Option.some.inj hf).symm hv3 hl w
  · replace hf := ite_f cd hf
    refine lv_aload_n hx hb dX9_scanToken_24 rfl (lv_at hl 0 rfl) ?_
    refine g_getr X w fg_X9_11 KD_24 FR_24_1 dX9_scanToken_25 ?_
    refine lv_iload_n hx hb dX9_scanToken_28 rfl (lv_at hl 2 rfl) ?_
    obtain ⟨hg, hf⟩ := gd_some hf
    refine g_cald X w KD_25 hv3 hg dX9_scanToken_29 ?_
    obtain ⟨r, hc, hf⟩ := obn_some hf
    refine g_csi (As := [.int (i2 (M 25 v3.toNat))]) (rest := []) X w (k_X9_isLetter X.2.2.1 (M 25 v3.toNat) (w.2.2 _ _) w.2.2 hc) lk_X9_46 ⟨rfl, rfl⟩ ⟨nle rfl, nle rfl⟩ ⟨nle rfl, nle rfl⟩ hl.1 rfl (nle rfl) dX9_scanToken_30 (fun hr H locs w => ?_)
    refine g_if_eq (tgt := 42) X hr dX9_scanToken_33 (by decide) (fun cd_2 => ?_) (fun cd_2 => ?_)
    · replace hf := ite_t cd_2 hf
      exact HE v3 _ _ _ (Option.some.inj hf).symm hv3 hl w
    · replace hf := ite_f cd_2 hf
      obtain ⟨v3_2, ev3_2, hf⟩ := lt_some hf
      have hv3_2 : inR v3_2 := inR_of ev3_2 (inR_wrap _)
      refine lv_iinc (v := i2 v3_2) (lv' := [(3, .int (i2 v3_2)), (0, .ref (ad 24)), (1, .int (i2 v1))]) hx hb dX9_scanToken_36 hl (k := 2) rfl (by rw [ev3_2]; exact i2_add _ _) (by decide) rfl (fun ls hl => ?_)
      refine lv_goto (tgt := 16) hx hb dX9_scanToken_39 (by decide) ?_
      exact HC v3_2 _ _ _ (Option.some.inj hf).symm hv3_2 (lv_sub hl [1, 2, 0] rfl) w
set_option maxRecDepth 100000 in
set_option maxHeartbeats 4000000 in
theorem l_X9_scanToken_16 (X : CX p s m args c cX9_scanToken 4 RX9 D aC ad sg A H0) (v1 : Int) (hv1 : inR v1) {M : Mem} {out : Int} (HE : ∀ (y3 : Int) (H : Heap) (locs : List Loc) (ls : Array Slot), out = y3 → inR y3 → lv_has ls 4 [(0, .ref (ad 24)), (1, .int (i2 v1)), (3, .int (i2 y3))] → WS D aC ad A H0 M H locs → W p l e rm_X9_scanToken s m args below meth c H locs 0 0 Q (F0 m 42 ls [])) : ∀ (n : Nat) (v3 : Int), whl (fun s => f_X9_scanToken_s16 v1 M s) n v3 = some out → inR v3 → ∀ {H : Heap} {locs : List Loc} {ls : Array Slot}, lv_has ls 4 [(0, .ref (ad 24)), (1, .int (i2 v1)), (3, .int (i2 v3))] → WS D aC ad A H0 M H locs → W p l e rm_X9_scanToken s m args below meth c H locs 0 0 Q (F0 m 16 ls []) := by
  intro n
  induction n with
  | zero => intro v3 hf; exact (whl_zero hf).elim
  | succ n ih =>
    intro v3 hf hv3 H locs ls hl w
    obtain ⟨o, hf, hk1, hk2⟩ := whl_step hf
    exact b_X9_scanToken_s16 X v1 hv1 (fun y3 H locs ls eo hy3 hl w => ih y3 (hk1 _ eo) hy3 hl w) (fun y3 H locs ls eo hy3 hl w => HE y3 H locs ls (hk2 _ eo).symm hy3 hl w) v3 hv3 hf hl w
set_option maxRecDepth 100000 in
set_option maxHeartbeats 4000000 in
theorem b_X9_scanToken_j42 (X : CX p s m args c cX9_scanToken 4 RX9 D aC ad sg A H0) {o : Int × Mem} (HR : ∀ (r : Int) (M1 : Mem) (H : Heap) (locs : List Loc) (pc : Nat) (ls : Array Slot), o = (r, M1) → inR r → WS D aC ad A H0 M1 H locs → decode cX9_scanToken pc = .ok (.ireturn, 1) → W p l e rm_X9_scanToken s m args below meth c H locs 0 0 Q (F0 m pc ls [.int (i2 r)])) (v1 : Int) (hv1 : inR v1) (v3 : Int) (hv3 : inR v3) (M : Mem) (hf : f_X9_scanToken_j42 v1 v3 M = some o) {H : Heap} {locs : List Loc} {ls : Array Slot} (hl : lv_has ls 4 [(0, .ref (ad 24)), (1, .int (i2 v1)), (3, .int (i2 v3))]) (w : WS D aC ad A H0 M H locs) : W p l e rm_X9_scanToken s m args below meth c H locs 0 0 Q (F0 m 42 ls []) := by
  have hx := X.1.1
  have hb := X.1.2.1
  unfold f_X9_scanToken_j42 at hf
  refine lv_aload_n hx hb dX9_scanToken_42 rfl (lv_at hl 0 rfl) ?_
  refine lv_aload_n hx hb dX9_scanToken_43 rfl (lv_at hl 0 rfl) ?_
  refine lv_iload_n hx hb dX9_scanToken_44 rfl (lv_at hl 1 rfl) ?_
  refine lv_iload_n hx hb dX9_scanToken_45 rfl (lv_at hl 2 rfl) ?_
  refine lv_iload_n hx hb dX9_scanToken_46 rfl (lv_at hl 1 rfl) ?_
  refine g_isub X dX9_scanToken_47 ?_
  obtain ⟨r, M_2, hc, hf⟩ := bnd_some hf
  refine g_cvi (As := [.int (i2 v1), .int (i2 (wrap (v3 - v1)))]) (rest := [.ref (ad 24)]) X w (k_X9_wordCode X.2.2.1 v1 hv1 (wrap (v3 - v1)) (inR_wrap _) w.2.2 hc) lk_X9_50 cl_9 KD_24 ⟨rfl, rfl⟩ ⟨nle rfl, nle rfl⟩ ⟨nle rfl, nle rfl⟩ hl.1 rfl (nle rfl) dX9_scanToken_48 (fun hr H locs w_M_2 => ?_)
  refine lv_iload_n hx hb dX9_scanToken_51 rfl (lv_at hl 1 rfl) ?_
  refine g_iconst X dX9_scanToken_52 ?_
  obtain ⟨M_3, hc, hf⟩ := obn_some hf
  refine g_cvv (As := [.int (i2 r), .int (i2 v1), .int (i2 0)]) (rest := []) X w_M_2 (k_X9_add X.2.2.1 r hr v1 hv1 0 (inL rfl) w_M_2.2.2 hc) lk_X9_42 cl_9 KD_24 ⟨rfl, rfl⟩ ⟨nle rfl, nle rfl⟩ ⟨nle rfl, nle rfl⟩ hl.1 rfl (nle rfl) dX9_scanToken_53 (fun H locs w_M_3 => ?_)
  refine lv_iload_n hx hb dX9_scanToken_56 rfl (lv_at hl 2 rfl) ?_
  refine lv_iload_n hx hb dX9_scanToken_57 rfl (lv_at hl 1 rfl) ?_
  refine g_isub X dX9_scanToken_58 ?_
  exact HR (wrap (v3 - v1)) M_3 _ _ _ _ (Option.some.inj hf).symm (inR_wrap _) w_M_3 dX9_scanToken_59
set_option maxRecDepth 100000 in
set_option maxHeartbeats 4000000 in
theorem b_X9_scanToken_0 (X : CX p s m args c cX9_scanToken 4 RX9 D aC ad sg A H0) {o : Int × Mem} (HR : ∀ (r : Int) (M1 : Mem) (H : Heap) (locs : List Loc) (pc : Nat) (ls : Array Slot), o = (r, M1) → inR r → WS D aC ad A H0 M1 H locs → decode cX9_scanToken pc = .ok (.ireturn, 1) → W p l e rm_X9_scanToken s m args below meth c H locs 0 0 Q (F0 m pc ls [.int (i2 r)])) (p1 : Int) (hp1 : inR p1) (M : Mem) (hf : f_X9_scanToken p1 M = some o) {H : Heap} {locs : List Loc} {ls : Array Slot} (hl : lv_has ls 4 [(0, .ref (ad 24)), (1, .int (i2 p1))]) (w : WS D aC ad A H0 M H locs) : W p l e rm_X9_scanToken s m args below meth c H locs 0 0 Q (F0 m 0 ls []) := by
  have hx := X.1.1
  have hb := X.1.2.1
  unfold f_X9_scanToken at hf
  refine lv_aload_n hx hb dX9_scanToken_0 rfl (lv_at hl 0 rfl) ?_
  refine g_getr X w fg_X9_11 KD_24 FR_24_1 dX9_scanToken_1 ?_
  refine lv_iload_n hx hb dX9_scanToken_4 rfl (lv_at hl 1 rfl) ?_
  obtain ⟨hg, hf⟩ := gd_some hf
  refine g_cald X w KD_25 hp1 hg dX9_scanToken_5 ?_
  obtain ⟨v2, ev2, hf⟩ := lt_some hf
  have hv2 : inR v2 := inR_of ev2 (w.2.2 _ _)
  refine g_istn (v := v2) (lv' := [(2, .int (i2 v2)), (0, .ref (ad 24)), (1, .int (i2 p1))]) X ev2 dX9_scanToken_6 rfl hl (by decide) rfl (fun ls hl => ?_)
  refine lv_iload_n hx hb dX9_scanToken_7 rfl (lv_at hl 0 rfl) ?_
  obtain ⟨r, hc, hf⟩ := obn_some hf
  refine g_csi (As := [.int (i2 v2)]) (rest := []) X w (k_X9_isLetter X.2.2.1 v2 hv2 w.2.2 hc) lk_X9_46 ⟨rfl, rfl⟩ ⟨nle rfl, nle rfl⟩ ⟨nle rfl, nle rfl⟩ hl.1 rfl (nle rfl) dX9_scanToken_8 (fun hr H locs w => ?_)
  refine g_if_eq (tgt := 60) X hr dX9_scanToken_11 (by decide) (fun cd => ?_) (fun cd => ?_)
  · replace hf := ite_t cd hf
    refine lv_iload_n hx hb dX9_scanToken_60 rfl (lv_at hl 0 rfl) ?_
    obtain ⟨r_2, hc, hf⟩ := obn_some hf
    refine g_csi (As := [.int (i2 v2)]) (rest := []) X w (k_X9_isDigit X.2.2.1 v2 hv2 w.2.2 hc) lk_X9_53 ⟨rfl, rfl⟩ ⟨nle rfl, nle rfl⟩ ⟨nle rfl, nle rfl⟩ hl.1 rfl (nle rfl) dX9_scanToken_61 (fun hr_2 H locs w => ?_)
    refine g_if_eq (tgt := 73) X hr_2 dX9_scanToken_64 (by decide) (fun cd_2 => ?_) (fun cd_2 => ?_)
    · replace hf := ite_t cd_2 hf
      refine lv_iload_n hx hb dX9_scanToken_73 rfl (lv_at hl 0 rfl) ?_
      refine g_bipush X dX9_scanToken_74 (by decide) ?_
      refine g_icmp_eq (tgt := 103) X hv2 (inL rfl) dX9_scanToken_76 (by decide) (fun cd_3 => ?_) (fun cd_3 => ?_)
      · replace hf := ite_t cd_3 hf
        refine g_iconst X dX9_scanToken_103 ?_
        refine lv_goto (tgt := 108) hx hb dX9_scanToken_104 (by decide) ?_
        exact b_X9_scanToken_j108 X  HR p1 hp1 v2 hv2 1 (inL rfl) M hf (lv_sub hl [1, 2, 0] rfl) w
      · replace hf := ite_f cd_3 hf
        refine lv_iload_n hx hb dX9_scanToken_79 rfl (lv_at hl 0 rfl) ?_
        refine g_bipush X dX9_scanToken_80 (by decide) ?_
        refine g_icmp_eq (tgt := 103) X hv2 (inL rfl) dX9_scanToken_82 (by decide) (fun cd_4 => ?_) (fun cd_4 => ?_)
        · replace hf := ite_t cd_4 hf
          refine g_iconst X dX9_scanToken_103 ?_
          refine lv_goto (tgt := 108) hx hb dX9_scanToken_104 (by decide) ?_
          exact b_X9_scanToken_j108 X  HR p1 hp1 v2 hv2 1 (inL rfl) M hf (lv_sub hl [1, 2, 0] rfl) w
        · replace hf := ite_f cd_4 hf
          refine lv_iload_n hx hb dX9_scanToken_85 rfl (lv_at hl 0 rfl) ?_
          refine g_bipush X dX9_scanToken_86 (by decide) ?_
          refine g_icmp_eq (tgt := 103) X hv2 (inL rfl) dX9_scanToken_88 (by decide) (fun cd_5 => ?_) (fun cd_5 => ?_)
          · replace hf := ite_t cd_5 hf
            refine g_iconst X dX9_scanToken_103 ?_
            refine lv_goto (tgt := 108) hx hb dX9_scanToken_104 (by decide) ?_
            exact b_X9_scanToken_j108 X  HR p1 hp1 v2 hv2 1 (inL rfl) M hf (lv_sub hl [1, 2, 0] rfl) w
          · replace hf := ite_f cd_5 hf
            refine lv_iload_n hx hb dX9_scanToken_91 rfl (lv_at hl 0 rfl) ?_
            refine g_bipush X dX9_scanToken_92 (by decide) ?_
            refine g_icmp_eq (tgt := 103) X hv2 (inL rfl) dX9_scanToken_94 (by decide) (fun cd_6 => ?_) (fun cd_6 => ?_)
            · replace hf := ite_t cd_6 hf
              refine g_iconst X dX9_scanToken_103 ?_
              refine lv_goto (tgt := 108) hx hb dX9_scanToken_104 (by decide) ?_
              exact b_X9_scanToken_j108 X  HR p1 hp1 v2 hv2 1 (inL rfl) M hf (lv_sub hl [1, 2, 0] rfl) w
            · replace hf := ite_f cd_6 hf
              refine lv_iload_n hx hb dX9_scanToken_97 rfl (lv_at hl 0 rfl) ?_
              refine g_bipush X dX9_scanToken_98 (by decide) ?_
              refine g_icmp_ne (tgt := 107) X hv2 (inL rfl) dX9_scanToken_100 (by decide) (fun cd_7 => ?_) (fun cd_7 => ?_)
              · replace hf := ite_f cd_7 hf
                refine g_iconst X dX9_scanToken_107 ?_
                exact b_X9_scanToken_j108 X  HR p1 hp1 v2 hv2 0 (inL rfl) M hf (lv_sub hl [1, 2, 0] rfl) w
              · replace hf := ite_t cd_7 hf
                refine g_iconst X dX9_scanToken_103 ?_
                refine lv_goto (tgt := 108) hx hb dX9_scanToken_104 (by decide) ?_
                exact b_X9_scanToken_j108 X  HR p1 hp1 v2 hv2 1 (inL rfl) M hf (lv_sub hl [1, 2, 0] rfl) w
    · replace hf := ite_f cd_2 hf
      refine lv_aload_n hx hb dX9_scanToken_67 rfl (lv_at hl 1 rfl) ?_
      refine lv_iload_n hx hb dX9_scanToken_68 rfl (lv_at hl 2 rfl) ?_
      obtain ⟨r_3, M_2, hc, hf⟩ := bnd_some hf
      refine g_cvi (As := [.int (i2 p1)]) (rest := []) X w (k_X9_scanNumber X.2.2.1 p1 hp1 w.2.2 hc) lk_X9_56 cl_9 KD_24 ⟨rfl, rfl⟩ ⟨nle rfl, nle rfl⟩ ⟨nle rfl, nle rfl⟩ hl.1 rfl (nle rfl) dX9_scanToken_69 (fun hr_3 H locs w_M_2 => ?_)
      exact HR r_3 M_2 _ _ _ _ (Option.some.inj hf).symm hr_3 w_M_2 dX9_scanToken_72
  · replace hf := ite_f cd hf
    refine lv_iload_n hx hb dX9_scanToken_14 rfl (lv_at hl 2 rfl) ?_
    refine g_istn (v := p1) (lv' := [(3, .int (i2 p1)), (2, .int (i2 v2)), (0, .ref (ad 24)), (1, .int (i2 p1))]) X rfl dX9_scanToken_15 rfl hl (by decide) rfl (fun ls hl => ?_)
    obtain ⟨q, hq, h1⟩ := obn_some hf
    exact l_X9_scanToken_16 X p1 hp1 (out := q) (fun y3 H locs ls eq hy3 hl w => b_X9_scanToken_j42 X  HR p1 hp1 y3 hy3 M (by subst eq; exact h1) hl w)  FU p1 hq hp1 (lv_sub hl [2, 3, 0] rfl) w
set_option maxRecDepth 100000 in
set_option maxHeartbeats 4000000 in
theorem k_X9_scanToken {l : Launch} {D : va_G} {aC : Nat → ClassId} {ad : Nat → Nat} {sg : SG} (hi : Inj ad) (p1 : Int) (hp1 : inR p1) {M : Mem} (hM : inM M) {r : Int} {M' : Mem} (hf : f_X9_scanToken p1 M = some (r, M')) : MetI l D aC ad sg yX9_scanToken cX9_scanToken 4 (some .int) rm_X9_scanToken 0 0 [.ref (ad 24), .int (i2 p1)] M r M' := by
  refine MetI.ofI (by decide +kernel) (nle rfl) hi hM (fun p e s m args below meth c Q H0 ls X hl w hret => ?_)
  exact b_X9_scanToken_0 X  (fun r1 M1 H locs pc ls eo hP w dg => by cases eo; exact hret H locs pc ls hP w dg) p1 hp1 M hf hl w
set_option maxRecDepth 100000 in
set_option maxHeartbeats 4000000 in
theorem b_X9_scan_j44k9 (X : CX p s m args c cX9_scan 4 RX9 D aC ad sg A H0) {o : (Int × Mem) ⊕ (Int × Mem)} (HC : ∀ (y2 : Int) (M1 : Mem) (H : Heap) (locs : List Loc) (ls : Array Slot), o = .inl (y2, M1) → inR y2 → lv_has ls 4 [(0, .ref (ad 24)), (2, .int (i2 y2))] → WS D aC ad A H0 M1 H locs → W p l e rm_X9_scan s m args below meth c H locs 0 0 Q (F0 m 9 ls [])) (HE : ∀ (y2 : Int) (M1 : Mem) (H : Heap) (locs : List Loc) (ls : Array Slot), o = .inr (y2, M1) → inR y2 → lv_has ls 4 [(0, .ref (ad 24)), (2, .int (i2 y2))] → WS D aC ad A H0 M1 H locs → W p l e rm_X9_scan s m args below meth c H locs 0 0 Q (F0 m 70 ls [])) (v2 : Int) (hv2 : inR v2) (s0 : Int) (hs0 : inR s0) (M : Mem) (hf : f_X9_scan_j44k9 v2 s0 M = some o) {H : Heap} {locs : List Loc} {ls : Array Slot} (hl : lv_has ls 4 [(0, .ref (ad 24)), (2, .int (i2 v2))]) (w : WS D aC ad A H0 M H locs) : W p l e rm_X9_scan s m args below meth c H locs 0 0 Q (F0 m 44 ls [.int (i2 s0)]) := by
  have hx := X.1.1
  have hb := X.1.2.1
  unfold f_X9_scan_j44k9 at hf
  refine g_istn (v := s0) (lv' := [(3, .int (i2 s0)), (0, .ref (ad 24)), (2, .int (i2 v2))]) X rfl dX9_scan_44 rfl hl (by decide) rfl (fun ls hl => ?_)
  refine lv_iload_n hx hb dX9_scan_45 rfl (lv_at hl 0 rfl) ?_
  refine g_if_eq (tgt := 53) X hs0 dX9_scan_46 (by decide) (fun cd => ?_) (fun cd => ?_)
  · replace hf := ite_t cd hf
    refine lv_aload_n hx hb dX9_scan_53 rfl (lv_at hl 1 rfl) ?_
    refine lv_iload_n hx hb dX9_scan_54 rfl (lv_at hl 2 rfl) ?_
    obtain ⟨r, M_2, hc, hf⟩ := bnd_some hf
    refine g_cvi (As := [.int (i2 v2)]) (rest := []) X w (k_X9_scanToken X.2.2.1 v2 hv2 w.2.2 hc) lk_X9_32 cl_9 KD_24 ⟨rfl, rfl⟩ ⟨nle rfl, nle rfl⟩ ⟨nle rfl, nle rfl⟩ hl.1 rfl (nle rfl) dX9_scan_55 (fun hr H locs w_M_2 => ?_)
    refine g_istn (v := r) (lv' := [(1, .int (i2 r)), (3, .int (i2 s0)), (0, .ref (ad 24)), (2, .int (i2 v2))]) X rfl dX9_scan_58 rfl hl (by decide) rfl (fun ls hl => ?_)
    refine lv_iload_n hx hb dX9_scan_59 rfl (lv_at hl 3 rfl) ?_
    refine g_iconst X dX9_scan_60 ?_
    refine lv_iload_n hx hb dX9_scan_61 rfl (lv_at hl 0 rfl) ?_
    refine g_max X (inL rfl) hr hl.1 mw_X9_36 ⟨nle rfl, nle rfl⟩ (nle rfl) (nle rfl) (nle rfl) dX9_scan_62 ?_
    refine g_iadd X dX9_scan_65 ?_
    obtain ⟨v2_2, ev2_2, hf⟩ := lt_some hf
    have hv2_2 : inR v2_2 := inR_of ev2_2 (inR_wrap _)
    refine g_istn (v := v2_2) (lv' := [(2, .int (i2 v2_2)), (1, .int (i2 r)), (3, .int (i2 s0)), (0, .ref (ad 24))]) X ev2_2 dX9_scan_66 rfl hl (by decide) rfl (fun ls hl => ?_)
    refine lv_goto (tgt := 9) hx hb dX9_scan_67 (by decide) ?_
    exact HC v2_2 M_2 _ _ _ (Option.some.inj hf).symm hv2_2 (lv_sub hl [3, 0] rfl) w_M_2
  · replace hf := ite_f cd hf
    refine g_iconst X dX9_scan_49 ?_
    refine lv_goto (tgt := 58) hx hb dX9_scan_50 (by decide) ?_
    refine g_istn (v := 1) (lv' := [(1, .int (i2 1)), (3, .int (i2 s0)), (0, .ref (ad 24)), (2, .int (i2 v2))]) X rfl dX9_scan_58 rfl hl (by decide) rfl (fun ls hl => ?_)
    refine lv_iload_n hx hb dX9_scan_59 rfl (lv_at hl 3 rfl) ?_
    refine g_iconst X dX9_scan_60 ?_
    refine lv_iload_n hx hb dX9_scan_61 rfl (lv_at hl 0 rfl) ?_
    refine g_max X (inL rfl) (inL rfl) hl.1 mw_X9_36 ⟨nle rfl, nle rfl⟩ (nle rfl) (nle rfl) (nle rfl) dX9_scan_62 ?_
    refine g_iadd X dX9_scan_65 ?_
    obtain ⟨v2_3, ev2_3, hf⟩ := lt_some hf
    have hv2_3 : inR v2_3 := inR_of ev2_3 (inR_wrap _)
    refine g_istn (v := v2_3) (lv' := [(2, .int (i2 v2_3)), (1, .int (i2 1)), (3, .int (i2 s0)), (0, .ref (ad 24))]) X ev2_3 dX9_scan_66 rfl hl (by decide) rfl (fun ls hl => ?_)
    refine lv_goto (tgt := 9) hx hb dX9_scan_67 (by decide) ?_
    exact HC v2_3 M _ _ _ (Option.some.inj hf).symm hv2_3 (lv_sub hl [3, 0] rfl) w
set_option maxRecDepth 100000 in
set_option maxHeartbeats 4000000 in
theorem b_X9_scan_s9 (X : CX p s m args c cX9_scan 4 RX9 D aC ad sg A H0) {o : (Int × Mem) ⊕ (Int × Mem)} (HC : ∀ (y2 : Int) (M1 : Mem) (H : Heap) (locs : List Loc) (ls : Array Slot), o = .inl (y2, M1) → inR y2 → lv_has ls 4 [(0, .ref (ad 24)), (2, .int (i2 y2))] → WS D aC ad A H0 M1 H locs → W p l e rm_X9_scan s m args below meth c H locs 0 0 Q (F0 m 9 ls [])) (HE : ∀ (y2 : Int) (M1 : Mem) (H : Heap) (locs : List Loc) (ls : Array Slot), o = .inr (y2, M1) → inR y2 → lv_has ls 4 [(0, .ref (ad 24)), (2, .int (i2 y2))] → WS D aC ad A H0 M1 H locs → W p l e rm_X9_scan s m args below meth c H locs 0 0 Q (F0 m 70 ls [])) (v2 : Int) (hv2 : inR v2) (M : Mem) (hf : f_X9_scan_s9 v2 M = some o) {H : Heap} {locs : List Loc} {ls : Array Slot} (hl : lv_has ls 4 [(0, .ref (ad 24)), (2, .int (i2 v2))]) (w : WS D aC ad A H0 M H locs) : W p l e rm_X9_scan s m args below meth c H locs 0 0 Q (F0 m 9 ls []) := by
  have hx := X.1.1
  have hb := X.1.2.1
  unfold f_X9_scan_s9 at hf
  refine lv_iload_n hx hb dX9_scan_9 rfl (lv_at hl 1 rfl) ?_
  refine lv_aload_n hx hb dX9_scan_10 rfl (lv_at hl 0 rfl) ?_
  refine g_geti X w fg_X9_25 KD_24 FR_24_0 dX9_scan_11 ?_
  refine g_icmp_ge (tgt := 70) X hv2 (w.2.2 _ _) dX9_scan_14 (by decide) (fun cd => ?_) (fun cd => ?_)
  · replace hf := ite_t cd hf
    exact HE v2 M _ _ _ (Option.some.inj hf).symm hv2 hl w
  · replace hf := ite_f cd hf
    refine lv_aload_n hx hb dX9_scan_17 rfl (lv_at hl 0 rfl) ?_
    refine g_getr X w fg_X9_11 KD_24 FR_24_1 dX9_scan_18 ?_
    refine lv_iload_n hx hb dX9_scan_21 rfl (lv_at hl 1 rfl) ?_
    obtain ⟨hg, hf⟩ := gd_some hf
    refine g_cald X w KD_25 hv2 hg dX9_scan_22 ?_
    refine g_bipush X dX9_scan_23 (by decide) ?_
    refine g_icmp_eq (tgt := 39) X (w.2.2 _ _) (inL rfl) dX9_scan_25 (by decide) (fun cd_2 => ?_) (fun cd_2 => ?_)
    · replace hf := ite_t cd_2 hf
      refine g_iconst X dX9_scan_39 ?_
      refine lv_goto (tgt := 44) hx hb dX9_scan_40 (by decide) ?_
      exact b_X9_scan_j44k9 X  HC HE v2 hv2 1 (inL rfl) M hf hl w
    · replace hf := ite_f cd_2 hf
      refine lv_aload_n hx hb dX9_scan_28 rfl (lv_at hl 0 rfl) ?_
      refine g_getr X w fg_X9_11 KD_24 FR_24_1 dX9_scan_29 ?_
      refine lv_iload_n hx hb dX9_scan_32 rfl (lv_at hl 1 rfl) ?_
      obtain ⟨hg_2, hf⟩ := gd_some hf
      refine g_cald X w KD_25 hv2 hg_2 dX9_scan_33 ?_
      refine g_bipush X dX9_scan_34 (by decide) ?_
      refine g_icmp_ne (tgt := 43) X (w.2.2 _ _) (inL rfl) dX9_scan_36 (by decide) (fun cd_3 => ?_) (fun cd_3 => ?_)
      · replace hf := ite_f cd_3 hf
        refine g_iconst X dX9_scan_43 ?_
        exact b_X9_scan_j44k9 X  HC HE v2 hv2 0 (inL rfl) M hf hl w
      · replace hf := ite_t cd_3 hf
        refine g_iconst X dX9_scan_39 ?_
        refine lv_goto (tgt := 44) hx hb dX9_scan_40 (by decide) ?_
        exact b_X9_scan_j44k9 X  HC HE v2 hv2 1 (inL rfl) M hf hl w
set_option maxRecDepth 100000 in
set_option maxHeartbeats 4000000 in
theorem l_X9_scan_9 (X : CX p s m args c cX9_scan 4 RX9 D aC ad sg A H0) {out : Int × Mem} (HE : ∀ (y2 : Int) (M1 : Mem) (H : Heap) (locs : List Loc) (ls : Array Slot), out = (y2, M1) → inR y2 → lv_has ls 4 [(0, .ref (ad 24)), (2, .int (i2 y2))] → WS D aC ad A H0 M1 H locs → W p l e rm_X9_scan s m args below meth c H locs 0 0 Q (F0 m 70 ls [])) : ∀ (n : Nat) (v2 : Int) (M : Mem), whl (fun s => f_X9_scan_s9 s.1 s.2) n (v2, M) = some out → inR v2 → ∀ {H : Heap} {locs : List Loc} {ls : Array Slot}, lv_has ls 4 [(0, .ref (ad 24)), (2, .int (i2 v2))] → WS D aC ad A H0 M H locs → W p l e rm_X9_scan s m args below meth c H locs 0 0 Q (F0 m 9 ls []) := by
  intro n
  induction n with
  | zero => intro v2 M hf; exact (whl_zero hf).elim
  | succ n ih =>
    intro v2 M hf hv2 H locs ls hl w
    obtain ⟨o, hf, hk1, hk2⟩ := whl_step hf
    exact b_X9_scan_s9 X  (fun y2 M1 H locs ls eo hy2 hl w => ih y2 M1 (hk1 _ eo) hy2 hl w) (fun y2 M1 H locs ls eo hy2 hl w => HE y2 M1 H locs ls (hk2 _ eo).symm hy2 hl w) v2 hv2 M hf hl w
set_option maxRecDepth 100000 in
set_option maxHeartbeats 4000000 in
theorem b_X9_scan_j70 (X : CX p s m args c cX9_scan 4 RX9 D aC ad sg A H0) {o : Mem} (HR : ∀ (M1 : Mem) (H : Heap) (locs : List Loc) (pc : Nat) (ls : Array Slot), o = M1 → WS D aC ad A H0 M1 H locs → decode cX9_scan pc = .ok (.return_, 1) → W p l e rm_X9_scan s m args below meth c H locs 0 0 Q (F0 m pc ls [])) (M : Mem) (hf : f_X9_scan_j70 M = some o) {H : Heap} {locs : List Loc} {ls : Array Slot} (hl : lv_has ls 4 [(0, .ref (ad 24))]) (w : WS D aC ad A H0 M H locs) : W p l e rm_X9_scan s m args below meth c H locs 0 0 Q (F0 m 70 ls []) := by
  have hx := X.1.1
  have hb := X.1.2.1
  unfold f_X9_scan_j70 at hf
  refine lv_aload_n hx hb dX9_scan_70 rfl (lv_at hl 0 rfl) ?_
  refine g_iconst X dX9_scan_71 ?_
  refine lv_aload_n hx hb dX9_scan_72 rfl (lv_at hl 0 rfl) ?_
  refine g_geti X w fg_X9_25 KD_24 FR_24_0 dX9_scan_73 ?_
  refine g_iconst X dX9_scan_76 ?_
  obtain ⟨M_2, hc, hf⟩ := obn_some hf
  refine g_cvv (As := [.int (i2 (-1)), .int (i2 (M 24 0)), .int (i2 0)]) (rest := []) X w (k_X9_add X.2.2.1 (-1) (inL rfl) (M 24 0) (w.2.2 _ _) 0 (inL rfl) w.2.2 hc) lk_X9_42 cl_9 KD_24 ⟨rfl, rfl⟩ ⟨nle rfl, nle rfl⟩ ⟨nle rfl, nle rfl⟩ hl.1 rfl (nle rfl) dX9_scan_77 (fun H locs w_M_2 => ?_)
  exact HR M_2 _ _ _ _ (Option.some.inj hf).symm w_M_2 dX9_scan_80
set_option maxRecDepth 100000 in
set_option maxHeartbeats 4000000 in
theorem b_X9_scan_0 (X : CX p s m args c cX9_scan 4 RX9 D aC ad sg A H0) {o : Mem} (HR : ∀ (M1 : Mem) (H : Heap) (locs : List Loc) (pc : Nat) (ls : Array Slot), o = M1 → WS D aC ad A H0 M1 H locs → decode cX9_scan pc = .ok (.return_, 1) → W p l e rm_X9_scan s m args below meth c H locs 0 0 Q (F0 m pc ls [])) (M : Mem) (hf : f_X9_scan M = some o) {H : Heap} {locs : List Loc} {ls : Array Slot} (hl : lv_has ls 4 [(0, .ref (ad 24))]) (w : WS D aC ad A H0 M H locs) : W p l e rm_X9_scan s m args below meth c H locs 0 0 Q (F0 m 0 ls []) := by
  have hx := X.1.1
  have hb := X.1.2.1
  unfold f_X9_scan at hf
  refine lv_aload_n hx hb dX9_scan_0 rfl (lv_at hl 0 rfl) ?_
  refine g_iconst X dX9_scan_1 ?_
  obtain ⟨M_2, eM_2, hf⟩ := lt_some hf
  refine g_puti X w fp_X9_29 KD_24 FR_24_2 (inL rfl) dX9_scan_2 (fun H locs w_M_2 => ?_)
  rw [← eM_2] at w_M_2
  refine g_iconst X dX9_scan_5 ?_
  refine g_istn (v := 1) (lv' := [(1, .int (i2 1)), (0, .ref (ad 24))]) X rfl dX9_scan_6 rfl hl (by decide) rfl (fun ls hl => ?_)
  refine g_iconst X dX9_scan_7 ?_
  refine g_istn (v := 0) (lv' := [(2, .int (i2 0)), (1, .int (i2 1)), (0, .ref (ad 24))]) X rfl dX9_scan_8 rfl hl (by decide) rfl (fun ls hl => ?_)
  obtain ⟨q, hq, h1⟩ := obn_some hf
  exact l_X9_scan_9 X  (out := q) (fun y2 M1 H locs ls eq hy2 hl w => b_X9_scan_j70 X  HR M1 (by subst eq; exact h1) (lv_sub hl [0] rfl) w)  FU 0 M_2 hq (inL rfl) (lv_sub hl [2, 0] rfl) w_M_2
set_option maxRecDepth 100000 in
set_option maxHeartbeats 4000000 in
theorem k_X9_scan {l : Launch} {D : va_G} {aC : Nat → ClassId} {ad : Nat → Nat} {sg : SG} (hi : Inj ad)  {M : Mem} (hM : inM M) {M' : Mem} (hf : f_X9_scan M = some M') : MetV l D aC ad sg yX9_scan cX9_scan 4 rm_X9_scan 0 0 [.ref (ad 24)] M M' := by
  refine MetV.of (by decide +kernel) (nle rfl) hi hM (fun p e s m args below meth c Q H0 ls X hl w hret => ?_)
  exact b_X9_scan_0 X  (fun M1 H locs pc ls eo w dg => by cases eo; exact hret H locs pc ls w dg) M hf hl w
end
