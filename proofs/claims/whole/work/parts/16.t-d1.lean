section
variable {p : Program} {l : Launch} {e : Env} {s : State} {m : MethodId} {args : Array Value} {below : List Frame} {meth : Method} {c : Code} {Q : State → Prop} {D : va_G} {aC : Nat → ClassId} {ad : Nat → Nat} {sg : SG} {A : Nat → Prop} {H0 : Heap}
set_option maxRecDepth 100000 in
set_option maxHeartbeats 4000000 in
theorem k_X11_orFive {l : Launch} {D : va_G} {aC : Nat → ClassId} {ad : Nat → Nat} {sg : SG} (hi : Inj ad) (p0 : Int) (hp0 : inR p0) {M : Mem} (hM : inM M) {r : Int} (hf : f_X11_orFive p0 M = some r) : MetI l D aC ad sg yX11_orFive cX11_orFive 1 (some .int) rm_X11_orFive 0 0 [.int (i2 p0)] M r M := by
  refine MetI.ofI (by decide +kernel) (nle rfl) hi hM (fun p e s m args below meth c Q H0 ls X hl w hret => ?_)
  exact b_X11_orFive_0 X  (fun r1 H locs pc ls eo hP w dg => by cases eo; exact hret H locs pc ls hP w dg) p0 hp0 hf hl w
set_option maxRecDepth 100000 in
set_option maxHeartbeats 4000000 in
theorem b_X11_wishesOf_s4 (X : CX p s m args c cX11_wishesOf 4 RX11 D aC ad sg A H0) (v1 : Int) (hv1 : inR v1) {M : Mem} {o : (Int × Int) ⊕ (Int × Int)} (HC : ∀ (y2 : Int) (y3 : Int) (H : Heap) (locs : List Loc) (ls : Array Slot), o = .inl (y2, y3) → inR y2 → inR y3 → lv_has ls 4 [(0, .ref (ad 80)), (1, .int (i2 v1)), (2, .int (i2 y2)), (3, .int (i2 y3))] → WS D aC ad A H0 M H locs → W p l e rm_X11_wishesOf s m args below meth c H locs 0 0 Q (F0 m 4 ls [])) (HE : ∀ (y2 : Int) (y3 : Int) (H : Heap) (locs : List Loc) (ls : Array Slot), o = .inr (y2, y3) → inR y2 → inR y3 → lv_has ls 4 [(0, .ref (ad 80)), (1, .int (i2 v1)), (2, .int (i2 y2)), (3, .int (i2 y3))] → WS D aC ad A H0 M H locs → W p l e rm_X11_wishesOf s m args below meth c H locs 0 0 Q (F0 m 37 ls [])) (v2 : Int) (hv2 : inR v2) (v3 : Int) (hv3 : inR v3) (hf : f_X11_wishesOf_s4 v1 M v2 v3 = some o) {H : Heap} {locs : List Loc} {ls : Array Slot} (hl : lv_has ls 4 [(0, .ref (ad 80)), (1, .int (i2 v1)), (2, .int (i2 v2)), (3, .int (i2 v3))]) (w : WS D aC ad A H0 M H locs) : W p l e rm_X11_wishesOf s m args below meth c H locs 0 0 Q (F0 m 4 ls []) := by
  have hx := X.1.1
  have hb := X.1.2.1
  unfold f_X11_wishesOf_s4 at hf
  refine lv_iload_n hx hb dX11_wishesOf_4 rfl (lv_at hl 3 rfl) ?_
  refine g_iconst X dX11_wishesOf_5 ?_
  refine g_icmp_ge (tgt := 37) X hv3 (inL rfl) dX11_wishesOf_6 (by decide) (fun cd => ?_) (fun cd => ?_)
  · replace hf := ite_t cd hf
    exact HE v2 v3 _ _ _ (Option.some.inj hf).symm hv2 hv3 hl w
  · replace hf := ite_f cd hf
    refine lv_iload_n hx hb dX11_wishesOf_9 rfl (lv_at hl 2 rfl) ?_
    refine lv_aload_n hx hb dX11_wishesOf_10 rfl (lv_at hl 0 rfl) ?_
    refine g_getr X w fg_X11_25 KD_80 FR_80_7 dX11_wishesOf_11 ?_
    refine g_iconst X dX11_wishesOf_14 ?_
    refine lv_iload_n hx hb dX11_wishesOf_15 rfl (lv_at hl 1 rfl) ?_
    refine g_imul X dX11_wishesOf_16 ?_
    refine lv_iload_n hx hb dX11_wishesOf_17 rfl (lv_at hl 3 rfl) ?_
    refine g_iadd X dX11_wishesOf_18 ?_
    obtain ⟨hg, hf⟩ := gd_some hf
    refine g_iald X w KD_86 (inR_wrap _) hg dX11_wishesOf_19 ?_
    refine g_iconst X dX11_wishesOf_20 ?_
    refine g_icmp_ne (tgt := 28) X (w.2.2 _ _) (inL rfl) dX11_wishesOf_21 (by decide) (fun cd_2 => ?_) (fun cd_2 => ?_)
    · replace hf := ite_f cd_2 hf
      refine g_iconst X dX11_wishesOf_28 ?_
      refine g_iadd X dX11_wishesOf_29 ?_
      obtain ⟨v2_2, ev2_2, hf⟩ := lt_some hf
      have hv2_2 : inR v2_2 := inR_of ev2_2 (inR_wrap _)
      refine g_istn (v := v2_2) (lv' := [(2, .int (i2 v2_2)), (0, .ref (ad 80)), (1, .int (i2 v1)), (3, .int (i2 v3))]) X ev2_2 dX11_wishesOf_30 rfl hl (by decide) rfl (fun ls hl => ?_)
      obtain ⟨v3_2, ev3_2, hf⟩ := lt_some hf
      have hv3_2 : inR v3_2 := inR_of ev3_2 (inR_wrap _)
      refine lv_iinc (v := i2 v3_2) (lv' := [(3, .int (i2 v3_2)), (2, .int (i2 v2_2)), (0, .ref (ad 80)), (1, .int (i2 v1))]) hx hb dX11_wishesOf_31 hl (k := 3) rfl (by rw [ev3_2]; exact i2_add _ _) (by decide) rfl (fun ls hl => ?_)
      refine lv_goto (tgt := 4) hx hb dX11_wishesOf_34 (by decide) ?_
      exact HC v2_2 v3_2 _ _ _ (Option.some.inj hf).symm hv2_2 hv3_2 (lv_sub hl [2, 3, 1, 0] rfl) w
    · replace hf := ite_t cd_2 hf
      refine g_iconst X dX11_wishesOf_24 ?_
      refine lv_goto (tgt := 29) hx hb dX11_wishesOf_25 (by decide) ?_
      refine g_iadd X dX11_wishesOf_29 ?_
      obtain ⟨v2_3, ev2_3, hf⟩ := lt_some hf
      have hv2_3 : inR v2_3 := inR_of ev2_3 (inR_wrap _)
      refine g_istn (v := v2_3) (lv' := [(2, .int (i2 v2_3)), (0, .ref (ad 80)), (1, .int (i2 v1)), (3, .int (i2 v3))]) X ev2_3 dX11_wishesOf_30 rfl hl (by decide) rfl (fun ls hl => ?_)
      obtain ⟨v3_3, ev3_3, hf⟩ := lt_some hf
      have hv3_3 : inR v3_3 := inR_of ev3_3 (inR_wrap _)
      refine lv_iinc (v := i2 v3_3) (lv' := [(3, .int (i2 v3_3)), (2, .int (i2 v2_3)), (0, .ref (ad 80)), (1, .int (i2 v1))]) hx hb dX11_wishesOf_31 hl (k := 3) rfl (by rw [ev3_3]; exact i2_add _ _) (by decide) rfl (fun ls hl => ?_)
      refine lv_goto (tgt := 4) hx hb dX11_wishesOf_34 (by decide) ?_
      exact HC v2_3 v3_3 _ _ _ (Option.some.inj hf).symm hv2_3 hv3_3 (lv_sub hl [2, 3, 1, 0] rfl) w
set_option maxRecDepth 100000 in
set_option maxHeartbeats 4000000 in
theorem l_X11_wishesOf_4 (X : CX p s m args c cX11_wishesOf 4 RX11 D aC ad sg A H0) (v1 : Int) (hv1 : inR v1) {M : Mem} {out : Int × Int} (HE : ∀ (y2 : Int) (y3 : Int) (H : Heap) (locs : List Loc) (ls : Array Slot), out = (y2, y3) → inR y2 → inR y3 → lv_has ls 4 [(0, .ref (ad 80)), (1, .int (i2 v1)), (2, .int (i2 y2)), (3, .int (i2 y3))] → WS D aC ad A H0 M H locs → W p l e rm_X11_wishesOf s m args below meth c H locs 0 0 Q (F0 m 37 ls [])) : ∀ (n : Nat) (v2 : Int) (v3 : Int), whl (fun s => f_X11_wishesOf_s4 v1 M s.1 s.2) n (v2, v3) = some out → inR v2 → inR v3 → ∀ {H : Heap} {locs : List Loc} {ls : Array Slot}, lv_has ls 4 [(0, .ref (ad 80)), (1, .int (i2 v1)), (2, .int (i2 v2)), (3, .int (i2 v3))] → WS D aC ad A H0 M H locs → W p l e rm_X11_wishesOf s m args below meth c H locs 0 0 Q (F0 m 4 ls []) := by
  intro n
  induction n with
  | zero => intro v2 v3 hf; exact (whl_zero hf).elim
  | succ n ih =>
    intro v2 v3 hf hv2 hv3 H locs ls hl w
    obtain ⟨o, hf, hk1, hk2⟩ := whl_step hf
    exact b_X11_wishesOf_s4 X v1 hv1 (fun y2 y3 H locs ls eo hy2 hy3 hl w => ih y2 y3 (hk1 _ eo) hy2 hy3 hl w) (fun y2 y3 H locs ls eo hy2 hy3 hl w => HE y2 y3 H locs ls (hk2 _ eo).symm hy2 hy3 hl w) v2 hv2 v3 hv3 hf hl w
set_option maxRecDepth 100000 in
set_option maxHeartbeats 4000000 in
theorem b_X11_wishesOf_j37 (X : CX p s m args c cX11_wishesOf 4 RX11 D aC ad sg A H0) {M : Mem} {o : Int} (HR : ∀ (r : Int) (H : Heap) (locs : List Loc) (pc : Nat) (ls : Array Slot), o = r → inR r → WS D aC ad A H0 M H locs → decode cX11_wishesOf pc = .ok (.ireturn, 1) → W p l e rm_X11_wishesOf s m args below meth c H locs 0 0 Q (F0 m pc ls [.int (i2 r)])) (v2 : Int) (hv2 : inR v2) (hf : f_X11_wishesOf_j37 v2 M = some o) {H : Heap} {locs : List Loc} {ls : Array Slot} (hl : lv_has ls 4 [(2, .int (i2 v2))]) (w : WS D aC ad A H0 M H locs) : W p l e rm_X11_wishesOf s m args below meth c H locs 0 0 Q (F0 m 37 ls []) := by
  have hx := X.1.1
  have hb := X.1.2.1
  unfold f_X11_wishesOf_j37 at hf
  refine lv_iload_n hx hb dX11_wishesOf_37 rfl (lv_at hl 0 rfl) ?_
  exact HR v2 _ _ _ _ (Option.some.inj hf).symm hv2 w dX11_wishesOf_38
set_option maxRecDepth 100000 in
set_option maxHeartbeats 4000000 in
theorem b_X11_wishesOf_0 (X : CX p s m args c cX11_wishesOf 4 RX11 D aC ad sg A H0) {M : Mem} {o : Int} (HR : ∀ (r : Int) (H : Heap) (locs : List Loc) (pc : Nat) (ls : Array Slot), o = r → inR r → WS D aC ad A H0 M H locs → decode cX11_wishesOf pc = .ok (.ireturn, 1) → W p l e rm_X11_wishesOf s m args below meth c H locs 0 0 Q (F0 m pc ls [.int (i2 r)])) (p1 : Int) (hp1 : inR p1) (hf : f_X11_wishesOf p1 M = some o) {H : Heap} {locs : List Loc} {ls : Array Slot} (hl : lv_has ls 4 [(0, .ref (ad 80)), (1, .int (i2 p1))]) (w : WS D aC ad A H0 M H locs) : W p l e rm_X11_wishesOf s m args below meth c H locs 0 0 Q (F0 m 0 ls []) := by
  have hx := X.1.1
  have hb := X.1.2.1
  unfold f_X11_wishesOf at hf
  refine g_iconst X dX11_wishesOf_0 ?_
  refine g_istn (v := 0) (lv' := [(2, .int (i2 0)), (0, .ref (ad 80)), (1, .int (i2 p1))]) X rfl dX11_wishesOf_1 rfl hl (by decide) rfl (fun ls hl => ?_)
  refine g_iconst X dX11_wishesOf_2 ?_
  refine g_istn (v := 0) (lv' := [(3, .int (i2 0)), (2, .int (i2 0)), (0, .ref (ad 80)), (1, .int (i2 p1))]) X rfl dX11_wishesOf_3 rfl hl (by decide) rfl (fun ls hl => ?_)
  obtain ⟨q, hq, h1⟩ := obn_some hf
  exact l_X11_wishesOf_4 X p1 hp1 (out := q) (fun y2 y3 H locs ls eq hy2 hy3 hl w => b_X11_wishesOf_j37 X  HR y2 hy2 (by subst eq; exact h1) (lv_sub hl [2] rfl) w)  FU 0 0 hq (inL rfl) (inL rfl) (lv_sub hl [2, 3, 1, 0] rfl) w
set_option maxRecDepth 100000 in
set_option maxHeartbeats 4000000 in
theorem k_X11_wishesOf {l : Launch} {D : va_G} {aC : Nat → ClassId} {ad : Nat → Nat} {sg : SG} (hi : Inj ad) (p1 : Int) (hp1 : inR p1) {M : Mem} (hM : inM M) {r : Int} (hf : f_X11_wishesOf p1 M = some r) : MetI l D aC ad sg yX11_wishesOf cX11_wishesOf 4 (some .int) rm_X11_wishesOf 0 0 [.ref (ad 80), .int (i2 p1)] M r M := by
  refine MetI.ofI (by decide +kernel) (nle rfl) hi hM (fun p e s m args below meth c Q H0 ls X hl w hret => ?_)
  exact b_X11_wishesOf_0 X  (fun r1 H locs pc ls eo hP w dg => by cases eo; exact hret H locs pc ls hP w dg) p1 hp1 hf hl w
set_option maxRecDepth 100000 in
set_option maxHeartbeats 4000000 in
theorem b_X11_namedBy_s4 (X : CX p s m args c cX11_namedBy 4 RX11 D aC ad sg A H0) (v1 : Int) (hv1 : inR v1) {M : Mem} {o : (Int × Int) ⊕ (Int × Int)} (HC : ∀ (y2 : Int) (y3 : Int) (H : Heap) (locs : List Loc) (ls : Array Slot), o = .inl (y2, y3) → inR y2 → inR y3 → lv_has ls 4 [(0, .ref (ad 80)), (1, .int (i2 v1)), (2, .int (i2 y2)), (3, .int (i2 y3))] → WS D aC ad A H0 M H locs → W p l e rm_X11_namedBy s m args below meth c H locs 0 0 Q (F0 m 4 ls [])) (HE : ∀ (y2 : Int) (y3 : Int) (H : Heap) (locs : List Loc) (ls : Array Slot), o = .inr (y2, y3) → inR y2 → inR y3 → lv_has ls 4 [(0, .ref (ad 80)), (1, .int (i2 v1)), (2, .int (i2 y2)), (3, .int (i2 y3))] → WS D aC ad A H0 M H locs → W p l e rm_X11_namedBy s m args below meth c H locs 0 0 Q (F0 m 38 ls [])) (v2 : Int) (hv2 : inR v2) (v3 : Int) (hv3 : inR v3) (hf : f_X11_namedBy_s4 v1 M v2 v3 = some o) {H : Heap} {locs : List Loc} {ls : Array Slot} (hl : lv_has ls 4 [(0, .ref (ad 80)), (1, .int (i2 v1)), (2, .int (i2 v2)), (3, .int (i2 v3))]) (w : WS D aC ad A H0 M H locs) : W p l e rm_X11_namedBy s m args below meth c H locs 0 0 Q (F0 m 4 ls []) := by
  have hx := X.1.1
  have hb := X.1.2.1
  unfold f_X11_namedBy_s4 at hf
  refine lv_iload_n hx hb dX11_namedBy_4 rfl (lv_at hl 3 rfl) ?_
  refine g_iconst X dX11_namedBy_5 ?_
  refine lv_aload_n hx hb dX11_namedBy_6 rfl (lv_at hl 0 rfl) ?_
  refine g_geti X w fg_X11_142 KD_80 FR_80_1 dX11_namedBy_7 ?_
  refine g_imul X dX11_namedBy_10 ?_
  refine g_icmp_ge (tgt := 38) X hv3 (inR_wrap _) dX11_namedBy_11 (by decide) (fun cd => ?_) (fun cd => ?_)
  · replace hf := ite_t cd hf
    exact HE v2 v3 _ _ _ (Option.some.inj hf).symm hv2 hv3 hl w
  · replace hf := ite_f cd hf
    refine lv_iload_n hx hb dX11_namedBy_14 rfl (lv_at hl 2 rfl) ?_
    refine lv_aload_n hx hb dX11_namedBy_15 rfl (lv_at hl 0 rfl) ?_
    refine g_getr X w fg_X11_25 KD_80 FR_80_7 dX11_namedBy_16 ?_
    refine lv_iload_n hx hb dX11_namedBy_19 rfl (lv_at hl 3 rfl) ?_
    obtain ⟨hg, hf⟩ := gd_some hf
    refine g_iald X w KD_86 hv3 hg dX11_namedBy_20 ?_
    refine lv_iload_n hx hb dX11_namedBy_21 rfl (lv_at hl 1 rfl) ?_
    refine g_icmp_ne (tgt := 29) X (w.2.2 _ _) hv1 dX11_namedBy_22 (by decide) (fun cd_2 => ?_) (fun cd_2 => ?_)
    · replace hf := ite_f cd_2 hf
      refine g_iconst X dX11_namedBy_29 ?_
      refine g_iadd X dX11_namedBy_30 ?_
      obtain ⟨v2_2, ev2_2, hf⟩ := lt_some hf
      have hv2_2 : inR v2_2 := inR_of ev2_2 (inR_wrap _)
      refine g_istn (v := v2_2) (lv' := [(2, .int (i2 v2_2)), (0, .ref (ad 80)), (1, .int (i2 v1)), (3, .int (i2 v3))]) X ev2_2 dX11_namedBy_31 rfl hl (by decide) rfl (fun ls hl => ?_)
      obtain ⟨v3_2, ev3_2, hf⟩ := lt_some hf
      have hv3_2 : inR v3_2 := inR_of ev3_2 (inR_wrap _)
      refine lv_iinc (v := i2 v3_2) (lv' := [(3, .int (i2 v3_2)), (2, .int (i2 v2_2)), (0, .ref (ad 80)), (1, .int (i2 v1))]) hx hb dX11_namedBy_32 hl (k := 3) rfl (by rw [ev3_2]; exact i2_add _ _) (by decide) rfl (fun ls hl => ?_)
      refine lv_goto (tgt := 4) hx hb dX11_namedBy_35 (by decide) ?_
      exact HC v2_2 v3_2 _ _ _ (Option.some.inj hf).symm hv2_2 hv3_2 (lv_sub hl [2, 3, 1, 0] rfl) w
    · replace hf := ite_t cd_2 hf
      refine g_iconst X dX11_namedBy_25 ?_
      refine lv_goto (tgt := 30) hx hb dX11_namedBy_26 (by decide) ?_
      refine g_iadd X dX11_namedBy_30 ?_
      obtain ⟨v2_3, ev2_3, hf⟩ := lt_some hf
      have hv2_3 : inR v2_3 := inR_of ev2_3 (inR_wrap _)
      refine g_istn (v := v2_3) (lv' := [(2, .int (i2 v2_3)), (0, .ref (ad 80)), (1, .int (i2 v1)), (3, .int (i2 v3))]) X ev2_3 dX11_namedBy_31 rfl hl (by decide) rfl (fun ls hl => ?_)
      obtain ⟨v3_3, ev3_3, hf⟩ := lt_some hf
      have hv3_3 : inR v3_3 := inR_of ev3_3 (inR_wrap _)
      refine lv_iinc (v := i2 v3_3) (lv' := [(3, .int (i2 v3_3)), (2, .int (i2 v2_3)), (0, .ref (ad 80)), (1, .int (i2 v1))]) hx hb dX11_namedBy_32 hl (k := 3) rfl (by rw [ev3_3]; exact i2_add _ _) (by decide) rfl (fun ls hl => ?_)
      refine lv_goto (tgt := 4) hx hb dX11_namedBy_35 (by decide) ?_
      exact HC v2_3 v3_3 _ _ _ (Option.some.inj hf).symm hv2_3 hv3_3 (lv_sub hl [2, 3, 1, 0] rfl) w
set_option maxRecDepth 100000 in
set_option maxHeartbeats 4000000 in
theorem l_X11_namedBy_4 (X : CX p s m args c cX11_namedBy 4 RX11 D aC ad sg A H0) (v1 : Int) (hv1 : inR v1) {M : Mem} {out : Int × Int} (HE : ∀ (y2 : Int) (y3 : Int) (H : Heap) (locs : List Loc) (ls : Array Slot), out = (y2, y3) → inR y2 → inR y3 → lv_has ls 4 [(0, .ref (ad 80)), (1, .int (i2 v1)), (2, .int (i2 y2)), (3, .int (i2 y3))] → WS D aC ad A H0 M H locs → W p l e rm_X11_namedBy s m args below meth c H locs 0 0 Q (F0 m 38 ls [])) : ∀ (n : Nat) (v2 : Int) (v3 : Int), whl (fun s => f_X11_namedBy_s4 v1 M s.1 s.2) n (v2, v3) = some out → inR v2 → inR v3 → ∀ {H : Heap} {locs : List Loc} {ls : Array Slot}, lv_has ls 4 [(0, .ref (ad 80)), (1, .int (i2 v1)), (2, .int (i2 v2)), (3, .int (i2 v3))] → WS D aC ad A H0 M H locs → W p l e rm_X11_namedBy s m args below meth c H locs 0 0 Q (F0 m 4 ls []) := by
  intro n
  induction n with
  | zero => intro v2 v3 hf; exact (whl_zero hf).elim
  | succ n ih =>
    intro v2 v3 hf hv2 hv3 H locs ls hl w
    obtain ⟨o, hf, hk1, hk2⟩ := whl_step hf
    exact b_X11_namedBy_s4 X v1 hv1 (fun y2 y3 H locs ls eo hy2 hy3 hl w => ih y2 y3 (hk1 _ eo) hy2 hy3 hl w) (fun y2 y3 H locs ls eo hy2 hy3 hl w => HE y2 y3 H locs ls (hk2 _ eo).symm hy2 hy3 hl w) v2 hv2 v3 hv3 hf hl w
set_option maxRecDepth 100000 in
set_option maxHeartbeats 4000000 in
theorem b_X11_namedBy_j38 (X : CX p s m args c cX11_namedBy 4 RX11 D aC ad sg A H0) {M : Mem} {o : Int} (HR : ∀ (r : Int) (H : Heap) (locs : List Loc) (pc : Nat) (ls : Array Slot), o = r → inR r → WS D aC ad A H0 M H locs → decode cX11_namedBy pc = .ok (.ireturn, 1) → W p l e rm_X11_namedBy s m args below meth c H locs 0 0 Q (F0 m pc ls [.int (i2 r)])) (v2 : Int) (hv2 : inR v2) (hf : f_X11_namedBy_j38 v2 M = some o) {H : Heap} {locs : List Loc} {ls : Array Slot} (hl : lv_has ls 4 [(2, .int (i2 v2))]) (w : WS D aC ad A H0 M H locs) : W p l e rm_X11_namedBy s m args below meth c H locs 0 0 Q (F0 m 38 ls []) := by
  have hx := X.1.1
  have hb := X.1.2.1
  unfold f_X11_namedBy_j38 at hf
  refine lv_iload_n hx hb dX11_namedBy_38 rfl (lv_at hl 0 rfl) ?_
  exact HR v2 _ _ _ _ (Option.some.inj hf).symm hv2 w dX11_namedBy_39
set_option maxRecDepth 100000 in
set_option maxHeartbeats 4000000 in
theorem b_X11_namedBy_0 (X : CX p s m args c cX11_namedBy 4 RX11 D aC ad sg A H0) {M : Mem} {o : Int} (HR : ∀ (r : Int) (H : Heap) (locs : List Loc) (pc : Nat) (ls : Array Slot), o = r → inR r → WS D aC ad A H0 M H locs → decode cX11_namedBy pc = .ok (.ireturn, 1) → W p l e rm_X11_namedBy s m args below meth c H locs 0 0 Q (F0 m pc ls [.int (i2 r)])) (p1 : Int) (hp1 : inR p1) (hf : f_X11_namedBy p1 M = some o) {H : Heap} {locs : List Loc} {ls : Array Slot} (hl : lv_has ls 4 [(0, .ref (ad 80)), (1, .int (i2 p1))]) (w : WS D aC ad A H0 M H locs) : W p l e rm_X11_namedBy s m args below meth c H locs 0 0 Q (F0 m 0 ls []) := by
  have hx := X.1.1
  have hb := X.1.2.1
  unfold f_X11_namedBy at hf
  refine g_iconst X dX11_namedBy_0 ?_
  refine g_istn (v := 0) (lv' := [(2, .int (i2 0)), (0, .ref (ad 80)), (1, .int (i2 p1))]) X rfl dX11_namedBy_1 rfl hl (by decide) rfl (fun ls hl => ?_)
  refine g_iconst X dX11_namedBy_2 ?_
  refine g_istn (v := 0) (lv' := [(3, .int (i2 0)), (2, .int (i2 0)), (0, .ref (ad 80)), (1, .int (i2 p1))]) X rfl dX11_namedBy_3 rfl hl (by decide) rfl (fun ls hl => ?_)
  obtain ⟨q, hq, h1⟩ := obn_some hf
  exact l_X11_namedBy_4 X p1 hp1 (out := q) (fun y2 y3 H locs ls eq hy2 hy3 hl w => b_X11_namedBy_j38 X  HR y2 hy2 (by subst eq; exact h1) (lv_sub hl [2] rfl) w)  FU 0 0 hq (inL rfl) (inL rfl) (lv_sub hl [2, 3, 1, 0] rfl) w
set_option maxRecDepth 100000 in
set_option maxHeartbeats 4000000 in
theorem k_X11_namedBy {l : Launch} {D : va_G} {aC : Nat → ClassId} {ad : Nat → Nat} {sg : SG} (hi : Inj ad) (p1 : Int) (hp1 : inR p1) {M : Mem} (hM : inM M) {r : Int} (hf : f_X11_namedBy p1 M = some r) : MetI l D aC ad sg yX11_namedBy cX11_namedBy 4 (some .int) rm_X11_namedBy 0 0 [.ref (ad 80), .int (i2 p1)] M r M := by
  refine MetI.ofI (by decide +kernel) (nle rfl) hi hM (fun p e s m args below meth c Q H0 ls X hl w hret => ?_)
  exact b_X11_namedBy_0 X  (fun r1 H locs pc ls eo hP w dg => by cases eo; exact hret H locs pc ls hP w dg) p1 hp1 hf hl w
set_option maxRecDepth 100000 in
set_option maxHeartbeats 4000000 in
theorem b_X11_allHold_j172k2 (X : CX p s m args c cX11_allHold 7 RX11 D aC ad sg A H0) (v1 : Int) (hv1 : inR v1) (v2 : Int) (hv2 : inR v2) {M : Mem} {o : (Int) ⊕ ((Int) ⊕ (Int))} (HC : ∀ (y3 : Int) (H : Heap) (locs : List Loc) (ls : Array Slot), o = .inl y3 → inR y3 → lv_has ls 7 [(0, .ref (ad 80)), (1, .int (i2 v1)), (2, .int (i2 v2)), (3, .int (i2 y3))] → WS D aC ad A H0 M H locs → W p l e rm_X11_allHold s m args below meth c H locs 0 0 Q (F0 m 2 ls [])) (HE : ∀ (y3 : Int) (H : Heap) (locs : List Loc) (ls : Array Slot), o = .inr (.inl y3) → inR y3 → lv_has ls 7 [(0, .ref (ad 80)), (1, .int (i2 v1)), (2, .int (i2 v2)), (3, .int (i2 y3))] → WS D aC ad A H0 M H locs → W p l e rm_X11_allHold s m args below meth c H locs 0 0 Q (F0 m 194 ls [])) (HR : ∀ (r : Int) (H : Heap) (locs : List Loc) (pc : Nat) (ls : Array Slot), o = .inr (.inr r) → isZ r → WS D aC ad A H0 M H locs → decode cX11_allHold pc = .ok (.ireturn, 1) → W p l e rm_X11_allHold s m args below meth c H locs 0 0 Q (F0 m pc ls [.int (i2 r)])) (v3 : Int) (hv3 : inR v3) (v4 : Int) (hv4 : inR v4) (s0 : Int) (hs0 : inR s0) (hf : f_X11_allHold_j172k2 v1 v2 v3 v4 s0 M = some o) {H : Heap} {locs : List Loc} {ls : Array Slot} (hl : lv_has ls 7 [(0, .ref (ad 80)), (1, .int (i2 v1)), (2, .int (i2 v2)), (3, .int (i2 v3)), (4, .int (i2 v4))]) (w : WS D aC ad A H0 M H locs) : W p l e rm_X11_allHold s m args below meth c H locs 0 0 Q (F0 m 172 ls [.int (i2 s0)]) := by
  have hx := X.1.1
  have hb := X.1.2.1
  unfold f_X11_allHold_j172k2 at hf
  refine g_ist (v := s0) (lv' := [(6, .int (i2 s0)), (0, .ref (ad 80)), (1, .int (i2 v1)), (2, .int (i2 v2)), (3, .int (i2 v3)), (4, .int (i2 v4))]) X rfl dX11_allHold_172 hl (by decide) rfl (fun ls hl => ?_)
  refine lv_iload hx hb dX11_allHold_174 (lv_at hl 0 rfl) ?_
  refine lv_aload_n hx hb dX11_allHold_176 rfl (lv_at hl 1 rfl) ?_
  refine g_getr X w fg_X11_75 KD_80 FR_80_27 dX11_allHold_177 ?_
  refine lv_iload hx hb dX11_allHold_180 (lv_at hl 5 rfl) ?_
  obtain ⟨hg, hf⟩ := gd_some hf
  refine g_zald X w KD_101 hv4 hg dX11_allHold_182 ?_
  refine g_icmp_ne (tgt := 188) X hs0 (w.2.2 _ _) dX11_allHold_183 (by decide) (fun cd => ?_) (fun cd => ?_)
  · replace hf := ite_f cd hf
    obtain ⟨v3_2, ev3_2, hf⟩ := lt_some hf
    have hv3_2 : inR v3_2 := inR_of ev3_2 (inR_wrap _)
    refine lv_iinc (v := i2 v3_2) (lv' := [(3, .int (i2 v3_2)), (6, .int (i2 s0)), (0, .ref (ad 80)), (1, .int (i2 v1)), (2, .int (i2 v2)), (4, .int (i2 v4))]) hx hb dX11_allHold_188 hl (k := 4) rfl (by rw [ev3_2]; exact i2_add _ _) (by decide) rfl (fun ls hl => ?_)
    refine lv_goto (tgt := 2) hx hb dX11_allHold_191 (by decide) ?_
    exact HC v3_2 _ _ _ (Option.some.inj hf).symm hv3_2 (lv_sub hl [2, 3, 4, 0] rfl) w
  · replace hf := ite_t cd hf
    refine g_iconst X dX11_allHold_186 ?_
    exact HR 0 _ _ _ _ (Option.some.inj hf).symm (Or.inl rfl) w dX11_allHold_187
set_option maxRecDepth 100000 in
set_option maxHeartbeats 4000000 in
theorem b_X11_allHold_j52k2 (X : CX p s m args c cX11_allHold 7 RX11 D aC ad sg A H0) (v1 : Int) (hv1 : inR v1) (v2 : Int) (hv2 : inR v2) {M : Mem} {o : (Int) ⊕ ((Int) ⊕ (Int))} (HC : ∀ (y3 : Int) (H : Heap) (locs : List Loc) (ls : Array Slot), o = .inl y3 → inR y3 → lv_has ls 7 [(0, .ref (ad 80)), (1, .int (i2 v1)), (2, .int (i2 v2)), (3, .int (i2 y3))] → WS D aC ad A H0 M H locs → W p l e rm_X11_allHold s m args below meth c H locs 0 0 Q (F0 m 2 ls [])) (HE : ∀ (y3 : Int) (H : Heap) (locs : List Loc) (ls : Array Slot), o = .inr (.inl y3) → inR y3 → lv_has ls 7 [(0, .ref (ad 80)), (1, .int (i2 v1)), (2, .int (i2 v2)), (3, .int (i2 y3))] → WS D aC ad A H0 M H locs → W p l e rm_X11_allHold s m args below meth c H locs 0 0 Q (F0 m 194 ls [])) (HR : ∀ (r : Int) (H : Heap) (locs : List Loc) (pc : Nat) (ls : Array Slot), o = .inr (.inr r) → isZ r → WS D aC ad A H0 M H locs → decode cX11_allHold pc = .ok (.ireturn, 1) → W p l e rm_X11_allHold s m args below meth c H locs 0 0 Q (F0 m pc ls [.int (i2 r)])) (v3 : Int) (hv3 : inR v3) (v4 : Int) (hv4 : inR v4) (s0 : Int) (hs0 : inR s0) (hf : f_X11_allHold_j52k2 v1 v2 v3 v4 s0 M = some o) {H : Heap} {locs : List Loc} {ls : Array Slot} (hl : lv_has ls 7 [(0, .ref (ad 80)), (1, .int (i2 v1)), (2, .int (i2 v2)), (3, .int (i2 v3)), (4, .int (i2 v4))]) (w : WS D aC ad A H0 M H locs) : W p l e rm_X11_allHold s m args below meth c H locs 0 0 Q (F0 m 52 ls [.int (i2 s0)]) := by
  have hx := X.1.1
  have hb := X.1.2.1
  unfold f_X11_allHold_j52k2 at hf
  refine g_ist (v := s0) (lv' := [(5, .int (i2 s0)), (0, .ref (ad 80)), (1, .int (i2 v1)), (2, .int (i2 v2)), (3, .int (i2 v3)), (4, .int (i2 v4))]) X rfl dX11_allHold_52 hl (by decide) rfl (fun ls hl => ?_)
  refine lv_aload_n hx hb dX11_allHold_54 rfl (lv_at hl 1 rfl) ?_
  refine g_getr X w fg_X11_78 KD_80 FR_80_28 dX11_allHold_55 ?_
  refine lv_iload hx hb dX11_allHold_58 (lv_at hl 5 rfl) ?_
  obtain ⟨hg, hf⟩ := gd_some hf
  refine g_iald X w KD_102 hv4 hg dX11_allHold_60 ?_
  refine g_bipush X dX11_allHold_61 (by decide) ?_
  refine g_icmp_ne (tgt := 94) X (w.2.2 _ _) (inL rfl) dX11_allHold_63 (by decide) (fun cd => ?_) (fun cd => ?_)
  · replace hf := ite_f cd hf
    refine lv_aload_n hx hb dX11_allHold_94 rfl (lv_at hl 1 rfl) ?_
    refine g_getr X w fg_X11_81 KD_80 FR_80_29 dX11_allHold_95 ?_
    refine lv_iload hx hb dX11_allHold_98 (lv_at hl 5 rfl) ?_
    obtain ⟨hg_2, hf⟩ := gd_some hf
    refine g_iald X w KD_103 hv4 hg_2 dX11_allHold_100 ?_
    refine g_if_ne (tgt := 124) X (w.2.2 _ _) dX11_allHold_101 (by decide) (fun cd_2 => ?_) (fun cd_2 => ?_)
    · replace hf := ite_f cd_2 hf
      refine lv_aload_n hx hb dX11_allHold_124 rfl (lv_at hl 1 rfl) ?_
      refine g_getr X w fg_X11_81 KD_80 FR_80_29 dX11_allHold_125 ?_
      refine lv_iload hx hb dX11_allHold_128 (lv_at hl 5 rfl) ?_
      obtain ⟨hg_3, hf⟩ := gd_some hf
      refine g_iald X w KD_103 hv4 hg_3 dX11_allHold_130 ?_
      refine g_iconst X dX11_allHold_131 ?_
      refine g_icmp_ne (tgt := 155) X (w.2.2 _ _) (inL rfl) dX11_allHold_132 (by decide) (fun cd_3 => ?_) (fun cd_3 => ?_)
      · replace hf := ite_f cd_3 hf
        refine lv_iload hx hb dX11_allHold_155 (lv_at hl 0 rfl) ?_
        refine lv_aload_n hx hb dX11_allHold_157 rfl (lv_at hl 1 rfl) ?_
        refine g_getr X w fg_X11_84 KD_80 FR_80_30 dX11_allHold_158 ?_
        refine lv_iload hx hb dX11_allHold_161 (lv_at hl 5 rfl) ?_
        obtain ⟨hg_4, hf⟩ := gd_some hf
        refine g_iald X w KD_104 hv4 hg_4 dX11_allHold_163 ?_
        refine g_icmp_le (tgt := 171) X hs0 (w.2.2 _ _) dX11_allHold_164 (by decide) (fun cd_4 => ?_) (fun cd_4 => ?_)
        · replace hf := ite_t cd_4 hf
          refine g_iconst X dX11_allHold_171 ?_
          exact b_X11_allHold_j172k2 X v1 hv1 v2 hv2 HC HE HR v3 hv3 v4 hv4 0 (inL rfl) hf (lv_sub hl [1, 2, 3, 4, 5] rfl) w
        · replace hf := ite_f cd_4 hf
          refine g_iconst X dX11_allHold_167 ?_
          refine lv_goto (tgt := 172) hx hb dX11_allHold_168 (by decide) ?_
          exact b_X11_allHold_j172k2 X v1 hv1 v2 hv2 HC HE HR v3 hv3 v4 hv4 1 (inL rfl) hf (lv_sub hl [1, 2, 3, 4, 5] rfl) w
      · replace hf := ite_t cd_3 hf
        refine lv_iload hx hb dX11_allHold_135 (lv_at hl 0 rfl) ?_
        refine lv_aload_n hx hb dX11_allHold_137 rfl (lv_at hl 1 rfl) ?_
        refine g_getr X w fg_X11_84 KD_80 FR_80_30 dX11_allHold_138 ?_
        refine lv_iload hx hb dX11_allHold_141 (lv_at hl 5 rfl) ?_
        obtain ⟨hg_5, hf⟩ := gd_some hf
        refine g_iald X w KD_104 hv4 hg_5 dX11_allHold_143 ?_
        refine g_icmp_ne (tgt := 151) X hs0 (w.2.2 _ _) dX11_allHold_144 (by decide) (fun cd_5 => ?_) (fun cd_5 => ?_)
        · replace hf := ite_f cd_5 hf
          refine g_iconst X dX11_allHold_151 ?_
          refine lv_goto (tgt := 172) hx hb dX11_allHold_152 (by decide) ?_
          exact b_X11_allHold_j172k2 X v1 hv1 v2 hv2 HC HE HR v3 hv3 v4 hv4 0 (inL rfl) hf (lv_sub hl [1, 2, 3, 4, 5] rfl) w
        · replace hf := ite_t cd_5 hf
          refine g_iconst X dX11_allHold_147 ?_
          refine lv_goto (tgt := 172) hx hb dX11_allHold_148 (by decide) ?_
          exact b_X11_allHold_j172k2 X v1 hv1 v2 hv2 HC HE HR v3 hv3 v4 hv4 1 (inL rfl) hf (lv_sub hl [1, 2, 3, 4, 5] rfl) w
    · replace hf := ite_t cd_2 hf
      refine lv_iload hx hb dX11_allHold_104 (lv_at hl 0 rfl) ?_
      refine lv_aload_n hx hb dX11_allHold_106 rfl (lv_at hl 1 rfl) ?_
      refine g_getr X w fg_X11_84 KD_80 FR_80_30 dX11_allHold_107 ?_
      refine lv_iload hx hb dX11_allHold_110 (lv_at hl 5 rfl) ?_
      obtain ⟨hg_6, hf⟩ := gd_some hf
      refine g_iald X w KD_104 hv4 hg_6 dX11_allHold_112 ?_
      refine g_icmp_ge (tgt := 120) X hs0 (w.2.2 _ _) dX11_allHold_113 (by decide) (fun cd_6 => ?_) (fun cd_6 => ?_)
      · replace hf := ite_t cd_6 hf
        refine g_iconst X dX11_allHold_120 ?_
        refine lv_goto (tgt := 172) hx hb dX11_allHold_121 (by decide) ?_
        exact b_X11_allHold_j172k2 X v1 hv1 v2 hv2 HC HE HR v3 hv3 v4 hv4 0 (inL rfl) hf (lv_sub hl [1, 2, 3, 4, 5] rfl) w
      · replace hf := ite_f cd_6 hf
        refine g_iconst X dX11_allHold_116 ?_
        refine lv_goto (tgt := 172) hx hb dX11_allHold_117 (by decide) ?_
        exact b_X11_allHold_j172k2 X v1 hv1 v2 hv2 HC HE HR v3 hv3 v4 hv4 1 (inL rfl) hf (lv_sub hl [1, 2, 3, 4, 5] rfl) w
  · replace hf := ite_t cd hf
    refine lv_aload_n hx hb dX11_allHold_66 rfl (lv_at hl 1 rfl) ?_
    refine g_getr X w fg_X11_16 KD_80 FR_80_4 dX11_allHold_67 ?_
    refine lv_iload_n hx hb dX11_allHold_70 rfl (lv_at hl 3 rfl) ?_
    obtain ⟨hg_7, hf⟩ := gd_some hf
    refine g_iald X w KD_83 hv2 hg_7 dX11_allHold_71 ?_
    refine lv_aload_n hx hb dX11_allHold_72 rfl (lv_at hl 1 rfl) ?_
    refine g_getr X w fg_X11_84 KD_80 FR_80_30 dX11_allHold_73 ?_
    refine lv_iload hx hb dX11_allHold_76 (lv_at hl 5 rfl) ?_
    obtain ⟨hg_8, hf⟩ := gd_some hf
    refine g_iald X w KD_104 hv4 hg_8 dX11_allHold_78 ?_
    refine g_ishr X dX11_allHold_79 ?_
    refine g_iconst X dX11_allHold_80 ?_
    refine g_iand X dX11_allHold_81 ?_
    refine g_iconst X dX11_allHold_82 ?_
    refine g_icmp_ne (tgt := 90) X (inR_toInt _) (inL rfl) dX11_allHold_83 (by decide) (fun cd_7 => ?_) (fun cd_7 => ?_)
    · replace hf := ite_f cd_7 hf
      refine g_iconst X dX11_allHold_90 ?_
      refine lv_goto (tgt := 172) hx hb dX11_allHold_91 (by decide) ?_
      exact b_X11_allHold_j172k2 X v1 hv1 v2 hv2 HC HE HR v3 hv3 v4 hv4 0 (inL rfl) hf (lv_sub hl [1, 2, 3, 4, 5] rfl) w
    · replace hf := ite_t cd_7 hf
      refine g_iconst X dX11_allHold_86 ?_
      refine lv_goto (tgt := 172) hx hb dX11_allHold_87 (by decide) ?_
      exact b_X11_allHold_j172k2 X v1 hv1 v2 hv2 HC HE HR v3 hv3 v4 hv4 1 (inL rfl) hf (lv_sub hl [1, 2, 3, 4, 5] rfl) w
set_option maxRecDepth 100000 in
set_option maxHeartbeats 4000000 in
theorem b_X11_allHold_s2 (X : CX p s m args c cX11_allHold 7 RX11 D aC ad sg A H0) (v1 : Int) (hv1 : inR v1) (v2 : Int) (hv2 : inR v2) {M : Mem} {o : (Int) ⊕ ((Int) ⊕ (Int))} (HC : ∀ (y3 : Int) (H : Heap) (locs : List Loc) (ls : Array Slot), o = .inl y3 → inR y3 → lv_has ls 7 [(0, .ref (ad 80)), (1, .int (i2 v1)), (2, .int (i2 v2)), (3, .int (i2 y3))] → WS D aC ad A H0 M H locs → W p l e rm_X11_allHold s m args below meth c H locs 0 0 Q (F0 m 2 ls [])) (HE : ∀ (y3 : Int) (H : Heap) (locs : List Loc) (ls : Array Slot), o = .inr (.inl y3) → inR y3 → lv_has ls 7 [(0, .ref (ad 80)), (1, .int (i2 v1)), (2, .int (i2 v2)), (3, .int (i2 y3))] → WS D aC ad A H0 M H locs → W p l e rm_X11_allHold s m args below meth c H locs 0 0 Q (F0 m 194 ls [])) (HR : ∀ (r : Int) (H : Heap) (locs : List Loc) (pc : Nat) (ls : Array Slot), o = .inr (.inr r) → isZ r → WS D aC ad A H0 M H locs → decode cX11_allHold pc = .ok (.ireturn, 1) → W p l e rm_X11_allHold s m args below meth c H locs 0 0 Q (F0 m pc ls [.int (i2 r)])) (v3 : Int) (hv3 : inR v3) (hf : f_X11_allHold_s2 v1 v2 M v3 = some o) {H : Heap} {locs : List Loc} {ls : Array Slot} (hl : lv_has ls 7 [(0, .ref (ad 80)), (1, .int (i2 v1)), (2, .int (i2 v2)), (3, .int (i2 v3))]) (w : WS D aC ad A H0 M H locs) : W p l e rm_X11_allHold s m args below meth c H locs 0 0 Q (F0 m 2 ls []) := by
  have hx := X.1.1
  have hb := X.1.2.1
  unfold f_X11_allHold_s2 at hf
  refine lv_iload_n hx hb dX11_allHold_2 rfl (lv_at hl 3 rfl) ?_
  refine lv_aload_n hx hb dX11_allHold_3 rfl (lv_at hl 0 rfl) ?_
  refine g_getr X w fg_X11_72 KD_80 FR_80_26 dX11_allHold_4 ?_
  refine lv_iload_n hx hb dX11_allHold_7 rfl (lv_at hl 1 rfl) ?_
  obtain ⟨hg, hf⟩ := gd_some hf
  refine g_iald X w KD_100 hv1 hg dX11_allHold_8 ?_
  refine g_icmp_ge (tgt := 194) X hv3 (w.2.2 _ _) dX11_allHold_9 (by decide) (fun cd => ?_) (fun cd => ?_)
  · replace hf := ite_t cd hf
    exact HE v3 _ _ _ (Option.some.inj hf).symm hv3 hl w
  · replace hf := ite_f cd hf
    refine g_iconst X dX11_allHold_12 ?_
    refine lv_iload_n hx hb dX11_allHold_13 rfl (lv_at hl 1 rfl) ?_
    refine g_imul X dX11_allHold_14 ?_
    refine lv_iload_n hx hb dX11_allHold_15 rfl (lv_at hl 3 rfl) ?_
    refine g_iadd X dX11_allHold_16 ?_
    obtain ⟨v4, ev4, hf⟩ := lt_some hf
    have hv4 : inR v4 := inR_of ev4 (inR_wrap _)
    refine g_ist (v := v4) (lv' := [(4, .int (i2 v4)), (0, .ref (ad 80)), (1, .int (i2 v1)), (2, .int (i2 v2)), (3, .int (i2 v3))]) X ev4 dX11_allHold_17 hl (by decide) rfl (fun ls hl => ?_)
    refine lv_aload_n hx hb dX11_allHold_19 rfl (lv_at hl 1 rfl) ?_
    refine g_getr X w fg_X11_78 KD_80 FR_80_28 dX11_allHold_20 ?_
    refine lv_iload hx hb dX11_allHold_23 (lv_at hl 0 rfl) ?_
    obtain ⟨hg_2, hf⟩ := gd_some hf
    refine g_iald X w KD_102 hv4 hg_2 dX11_allHold_25 ?_
    refine g_bipush X dX11_allHold_26 (by decide) ?_
    refine g_icmp_ne (tgt := 35) X (w.2.2 _ _) (inL rfl) dX11_allHold_28 (by decide) (fun cd_2 => ?_) (fun cd_2 => ?_)
    · replace hf := ite_f cd_2 hf
      refine lv_aload_n hx hb dX11_allHold_35 rfl (lv_at hl 1 rfl) ?_
      refine g_getr X w fg_X11_94 KD_80 FR_80_39 dX11_allHold_36 ?_
      refine g_bipush X dX11_allHold_39 (by decide) ?_
      refine lv_iload_n hx hb dX11_allHold_41 rfl (lv_at hl 3 rfl) ?_
      refine g_imul X dX11_allHold_42 ?_
      refine lv_aload_n hx hb dX11_allHold_43 rfl (lv_at hl 1 rfl) ?_
      refine g_getr X w fg_X11_78 KD_80 FR_80_28 dX11_allHold_44 ?_
      refine lv_iload hx hb dX11_allHold_47 (lv_at hl 0 rfl) ?_
      obtain ⟨hg_3, hf⟩ := gd_some hf
      refine g_iald X w KD_102 hv4 hg_3 dX11_allHold_49 ?_
      refine g_iadd X dX11_allHold_50 ?_
      obtain ⟨hg_4, hf⟩ := gd_some hf
      refine g_iald X w KD_106 (inR_wrap _) hg_4 dX11_allHold_51 ?_
      exact b_X11_allHold_j52k2 X v1 hv1 v2 hv2 HC HE HR v3 hv3 v4 hv4 (M 106 (wrap ((wrap (7 * v2)) + (M 102 v4.toNat))).toNat) (w.2.2 _ _) hf (lv_sub hl [1, 2, 3, 4, 0] rfl) w
    · replace hf := ite_t cd_2 hf
      refine g_iconst X dX11_allHold_31 ?_
      refine lv_goto (tgt := 52) hx hb dX11_allHold_32 (by decide) ?_
      exact b_X11_allHold_j52k2 X v1 hv1 v2 hv2 HC HE HR v3 hv3 v4 hv4 0 (inL rfl) hf (lv_sub hl [1, 2, 3, 4, 0] rfl) w
set_option maxRecDepth 100000 in
set_option maxHeartbeats 4000000 in
theorem l_X11_allHold_2 (X : CX p s m args c cX11_allHold 7 RX11 D aC ad sg A H0) (v1 : Int) (hv1 : inR v1) (v2 : Int) (hv2 : inR v2) {M : Mem} {out : (Int) ⊕ (Int)} (HE : ∀ (y3 : Int) (H : Heap) (locs : List Loc) (ls : Array Slot), out = .inl y3 → inR y3 → lv_has ls 7 [(0, .ref (ad 80)), (1, .int (i2 v1)), (2, .int (i2 v2)), (3, .int (i2 y3))] → WS D aC ad A H0 M H locs → W p l e rm_X11_allHold s m args below meth c H locs 0 0 Q (F0 m 194 ls [])) (HR : ∀ (r : Int) (H : Heap) (locs : List Loc) (pc : Nat) (ls : Array Slot), out = .inr r → isZ r → WS D aC ad A H0 M H locs → decode cX11_allHold pc = .ok (.ireturn, 1) → W p l e rm_X11_allHold s m args below meth c H locs 0 0 Q (F0 m pc ls [.int (i2 r)])) : ∀ (n : Nat) (v3 : Int), whl (fun s => f_X11_allHold_s2 v1 v2 M s) n v3 = some out → inR v3 → ∀ {H : Heap} {locs : List Loc} {ls : Array Slot}, lv_has ls 7 [(0, .ref (ad 80)), (1, .int (i2 v1)), (2, .int (i2 v2)), (3, .int (i2 v3))] → WS D aC ad A H0 M H locs → W p l e rm_X11_allHold s m args below meth c H locs 0 0 Q (F0 m 2 ls []) := by
  intro n
  induction n with
  | zero => intro v3 hf; exact (whl_zero hf).elim
  | succ n ih =>
    intro v3 hf hv3 H locs ls hl w
    obtain ⟨o, hf, hk1, hk2⟩ := whl_step hf
    exact b_X11_allHold_s2 X v1 hv1 v2 hv2 (fun y3 H locs ls eo hy3 hl w => ih y3 (hk1 _ eo) hy3 hl w) (fun y3 H locs ls eo hy3 hl w => HE y3 H locs ls (hk2 _ eo).symm hy3 hl w) (fun r H locs pc ls eo hP w dg => HR r H locs pc ls (hk2 _ eo).symm hP w dg) v3 hv3 hf hl w
set_option maxRecDepth 100000 in
set_option maxHeartbeats 4000000 in
theorem b_X11_allHold_j194 (X : CX p s m args c cX11_allHold 7 RX11 D aC ad sg A H0) {M : Mem} {o : Int} (HR : ∀ (r : Int) (H : Heap) (locs : List Loc) (pc : Nat) (ls : Array Slot), o = r → isZ r → WS D aC ad A H0 M H locs → decode cX11_allHold pc = .ok (.ireturn, 1) → W p l e rm_X11_allHold s m args below meth c H locs 0 0 Q (F0 m pc ls [.int (i2 r)])) (hf : f_X11_allHold_j194 M = some o) {H : Heap} {locs : List Loc} {ls : Array Slot} (hl : lv_has ls 7 []) (w : WS D aC ad A H0 M H locs) : W p l e rm_X11_allHold s m args below meth c H locs 0 0 Q (F0 m 194 ls []) := by
  have hx := X.1.1
  have hb := X.1.2.1
  unfold f_X11_allHold_j194 at hf
  refine g_iconst X dX11_allHold_194 ?_
  exact HR 1 _ _ _ _ (Option.some.inj hf).symm (Or.inr rfl) w dX11_allHold_195
set_option maxRecDepth 100000 in
set_option maxHeartbeats 4000000 in
theorem b_X11_allHold_0 (X : CX p s m args c cX11_allHold 7 RX11 D aC ad sg A H0) {M : Mem} {o : Int} (HR : ∀ (r : Int) (H : Heap) (locs : List Loc) (pc : Nat) (ls : Array Slot), o = r → isZ r → WS D aC ad A H0 M H locs → decode cX11_allHold pc = .ok (.ireturn, 1) → W p l e rm_X11_allHold s m args below meth c H locs 0 0 Q (F0 m pc ls [.int (i2 r)])) (p1 : Int) (hp1 : inR p1) (p2 : Int) (hp2 : inR p2) (hf : f_X11_allHold p1 p2 M = some o) {H : Heap} {locs : List Loc} {ls : Array Slot} (hl : lv_has ls 7 [(0, .ref (ad 80)), (1, .int (i2 p1)), (2, .int (i2 p2))]) (w : WS D aC ad A H0 M H locs) : W p l e rm_X11_allHold s m args below meth c H locs 0 0 Q (F0 m 0 ls []) := by
  have hx := X.1.1
  have hb := X.1.2.1
  unfold f_X11_allHold at hf
  refine g_iconst X dX11_allHold_0 ?_
  refine g_istn (v := 0) (lv' := [(3, .int (i2 0)), (0, .ref (ad 80)), (1, .int (i2 p1)), (2, .int (i2 p2))]) X rfl dX11_allHold_1 rfl hl (by decide) rfl (fun ls hl => ?_)
  obtain ⟨q, hq, h1, h2⟩ := lpr_some hf
  exact l_X11_allHold_2 X p1 hp1 p2 hp2 (out := q) (fun y3 H locs ls eq hy3 hl w => b_X11_allHold_j194 X  HR  (h1 _ eq) (lv_sub hl [] rfl) w) (fun r H locs pc ls eq hP w dg => HR r H locs pc ls (Option.some.inj (h2 _ eq)).symm hP w dg) FU 0 hq (inL rfl) (lv_sub hl [1, 2, 3, 0] rfl) w
set_option maxRecDepth 100000 in
set_option maxHeartbeats 4000000 in
theorem k_X11_allHold {l : Launch} {D : va_G} {aC : Nat → ClassId} {ad : Nat → Nat} {sg : SG} (hi : Inj ad) (p1 : Int) (hp1 : inR p1) (p2 : Int) (hp2 : inR p2) {M : Mem} (hM : inM M) {r : Int} (hf : f_X11_allHold p1 p2 M = some r) : MetI l D aC ad sg yX11_allHold cX11_allHold 7 (some .boolean) rm_X11_allHold 0 0 [.ref (ad 80), .int (i2 p1), .int (i2 p2)] M r M := by
  refine MetI.ofZ (by decide +kernel) (nle rfl) hi hM (fun p e s m args below meth c Q H0 ls X hl w hret => ?_)
  exact b_X11_allHold_0 X  (fun r1 H locs pc ls eo hP w dg => by cases eo; exact hret H locs pc ls hP w dg) p1 hp1 p2 hp2 hf hl w
set_option maxRecDepth 100000 in
set_option maxHeartbeats 4000000 in
theorem b_X11_learns_s2 (X : CX p s m args c cX11_learns 4 RX11 D aC ad sg A H0) (v1 : Int) (hv1 : inR v1) {o : (Int × Mem) ⊕ (Int × Mem)} (HC : ∀ (y2 : Int) (M1 : Mem) (H : Heap) (locs : List Loc) (ls : Array Slot), o = .inl (y2, M1) → inR y2 → lv_has ls 4 [(0, .ref (ad 80)), (1, .int (i2 v1)), (2, .int (i2 y2))] → WS D aC ad A H0 M1 H locs → W p l e rm_X11_learns s m args below meth c H locs 0 0 Q (F0 m 2 ls [])) (HE : ∀ (y2 : Int) (M1 : Mem) (H : Heap) (locs : List Loc) (ls : Array Slot), o = .inr (y2, M1) → inR y2 → lv_has ls 4 [(0, .ref (ad 80)), (1, .int (i2 v1)), (2, .int (i2 y2))] → WS D aC ad A H0 M1 H locs → W p l e rm_X11_learns s m args below meth c H locs 0 0 Q (F0 m 140 ls [])) (v2 : Int) (hv2 : inR v2) (M : Mem) (hf : f_X11_learns_s2 v1 v2 M = some o) {H : Heap} {locs : List Loc} {ls : Array Slot} (hl : lv_has ls 4 [(0, .ref (ad 80)), (1, .int (i2 v1)), (2, .int (i2 v2))]) (w : WS D aC ad A H0 M H locs) : W p l e rm_X11_learns s m args below meth c H locs 0 0 Q (F0 m 2 ls []) := by
  have hx := X.1.1
  have hb := X.1.2.1
  unfold f_X11_learns_s2 at hf
  refine lv_iload_n hx hb dX11_learns_2 rfl (lv_at hl 2 rfl) ?_
  refine lv_aload_n hx hb dX11_learns_3 rfl (lv_at hl 0 rfl) ?_
  refine g_geti X w fg_X11_142 KD_80 FR_80_1 dX11_learns_4 ?_
  refine g_icmp_ge (tgt := 140) X hv2 (w.2.2 _ _) dX11_learns_7 (by decide) (fun cd => ?_) (fun cd => ?_)
  · replace hf := ite_t cd hf
    exact HE v2 M _ _ _ (Option.some.inj hf).symm hv2 hl w
  · replace hf := ite_f cd hf
    refine lv_aload_n hx hb dX11_learns_10 rfl (lv_at hl 0 rfl) ?_
    refine g_getr X w fg_X11_94 KD_80 FR_80_39 dX11_learns_11 ?_
    refine g_bipush X dX11_learns_14 (by decide) ?_
    refine lv_iload_n hx hb dX11_learns_16 rfl (lv_at hl 2 rfl) ?_
    refine g_imul X dX11_learns_17 ?_
    refine lv_aload_n hx hb dX11_learns_18 rfl (lv_at hl 0 rfl) ?_
    refine g_getr X w fg_X11_7 KD_80 FR_80_2 dX11_learns_19 ?_
    refine lv_iload_n hx hb dX11_learns_22 rfl (lv_at hl 2 rfl) ?_
    obtain ⟨hg, hf⟩ := gd_some hf
    refine g_iald X w KD_81 hv2 hg dX11_learns_23 ?_
    obtain ⟨hg_2, hf⟩ := gd_some hf
    obtain ⟨M_2, eM_2, hf⟩ := lt_some hf
    refine g_iast X w KD_106 (inR_wrap _) hg_2 (w.2.2 _ _) dX11_learns_24 (fun H locs w_M_2 => ?_)
    rw [← eM_2] at w_M_2
    refine lv_aload_n hx hb dX11_learns_25 rfl (lv_at hl 0 rfl) ?_
    refine g_getr X w_M_2 fg_X11_94 KD_80 FR_80_39 dX11_learns_26 ?_
    refine g_bipush X dX11_learns_29 (by decide) ?_
    refine lv_iload_n hx hb dX11_learns_31 rfl (lv_at hl 2 rfl) ?_
    refine g_imul X dX11_learns_32 ?_
    refine g_iconst X dX11_learns_33 ?_
    refine g_iadd X dX11_learns_34 ?_
    refine lv_aload_n hx hb dX11_learns_35 rfl (lv_at hl 0 rfl) ?_
    refine g_getr X w_M_2 fg_X11_13 KD_80 FR_80_3 dX11_learns_36 ?_
    refine lv_iload_n hx hb dX11_learns_39 rfl (lv_at hl 2 rfl) ?_
    obtain ⟨hg_3, hf⟩ := gd_some hf
    refine g_iald X w_M_2 KD_82 hv2 hg_3 dX11_learns_40 ?_
    obtain ⟨hg_4, hf⟩ := gd_some hf
    obtain ⟨M_3, eM_3, hf⟩ := lt_some hf
    refine g_iast X w_M_2 KD_106 (inR_wrap _) hg_4 (w_M_2.2.2 _ _) dX11_learns_41 (fun H locs w_M_3 => ?_)
    rw [← eM_3] at w_M_3
    refine lv_aload_n hx hb dX11_learns_42 rfl (lv_at hl 0 rfl) ?_
    refine g_getr X w_M_3 fg_X11_94 KD_80 FR_80_39 dX11_learns_43 ?_
    refine g_bipush X dX11_learns_46 (by decide) ?_
    refine lv_iload_n hx hb dX11_learns_48 rfl (lv_at hl 2 rfl) ?_
    refine g_imul X dX11_learns_49 ?_
    refine g_iconst X dX11_learns_50 ?_
    refine g_iadd X dX11_learns_51 ?_
    refine lv_aload_n hx hb dX11_learns_52 rfl (lv_at hl 0 rfl) ?_
    refine lv_iload_n hx hb dX11_learns_53 rfl (lv_at hl 2 rfl) ?_
    refine g_iconst X dX11_learns_54 ?_
    refine lv_iload_n hx hb dX11_learns_55 rfl (lv_at hl 1 rfl) ?_
    obtain ⟨r, hc, hf⟩ := obn_some hf
    refine g_cvi (As := [.int (i2 v2), .int (i2 0), .int (i2 v1)]) (rest := [.int (i2 (wrap ((wrap (7 * v2)) + 2))), .ref (ad 106)]) X w_M_3 (k_X11_together X.2.2.1 v2 hv2 0 (inL rfl) v1 hv1 w_M_3.2.2 hc) lk_X11_178 cl_11 KD_80 ⟨rfl, rfl⟩ ⟨nle rfl, nle rfl⟩ ⟨nle rfl, nle rfl⟩ hl.1 rfl (nle rfl) dX11_learns_56 (fun hr H locs w_M_3 => ?_)
    obtain ⟨r_2, hc, hf⟩ := obn_some hf
    refine g_csi (As := [.int (i2 r)]) (rest := [.int (i2 (wrap ((wrap (7 * v2)) + 2))), .ref (ad 106)]) X w_M_3 (k_X11_orFive X.2.2.1 r hr w_M_3.2.2 hc) lk_X11_310 ⟨rfl, rfl⟩ ⟨nle rfl, nle rfl⟩ ⟨nle rfl, nle rfl⟩ hl.1 rfl (nle rfl) dX11_learns_59 (fun hr_2 H locs w_M_3 => ?_)
    obtain ⟨hg_5, hf⟩ := gd_some hf
    obtain ⟨M_4, eM_4, hf⟩ := lt_some hf
    refine g_iast X w_M_3 KD_106 (inR_wrap _) hg_5 hr_2 dX11_learns_62 (fun H locs w_M_4 => ?_)
    rw [← eM_4] at w_M_4
    refine lv_aload_n hx hb dX11_learns_63 rfl (lv_at hl 0 rfl) ?_
    refine g_getr X w_M_4 fg_X11_94 KD_80 FR_80_39 dX11_learns_64 ?_
    refine g_bipush X dX11_learns_67 (by decide) ?_
    refine lv_iload_n hx hb dX11_learns_69 rfl (lv_at hl 2 rfl) ?_
    refine g_imul X dX11_learns_70 ?_
    refine g_iconst X dX11_learns_71 ?_
    refine g_iadd X dX11_learns_72 ?_
    refine lv_aload_n hx hb dX11_learns_73 rfl (lv_at hl 0 rfl) ?_
    refine lv_iload_n hx hb dX11_learns_74 rfl (lv_at hl 2 rfl) ?_
    refine g_iconst X dX11_learns_75 ?_
    refine lv_iload_n hx hb dX11_learns_76 rfl (lv_at hl 1 rfl) ?_
    obtain ⟨r_3, hc, hf⟩ := obn_some hf
    refine g_cvi (As := [.int (i2 v2), .int (i2 1), .int (i2 v1)]) (rest := [.int (i2 (wrap ((wrap (7 * v2)) + 3))), .ref (ad 106)]) X w_M_4 (k_X11_together X.2.2.1 v2 hv2 1 (inL rfl) v1 hv1 w_M_4.2.2 hc) lk_X11_178 cl_11 KD_80 ⟨rfl, rfl⟩ ⟨nle rfl, nle rfl⟩ ⟨nle rfl, nle rfl⟩ hl.1 rfl (nle rfl) dX11_learns_77 (fun hr_3 H locs w_M_4 => ?_)
    obtain ⟨r_4, hc, hf⟩ := obn_some hf
    refine g_csi (As := [.int (i2 r_3)]) (rest := [.int (i2 (wrap ((wrap (7 * v2)) + 3))), .ref (ad 106)]) X w_M_4 (k_X11_orFive X.2.2.1 r_3 hr_3 w_M_4.2.2 hc) lk_X11_310 ⟨rfl, rfl⟩ ⟨nle rfl, nle rfl⟩ ⟨nle rfl, nle rfl⟩ hl.1 rfl (nle rfl) dX11_learns_80 (fun hr_4 H locs w_M_4 => ?_)
    obtain ⟨hg_6, hf⟩ := gd_some hf
    obtain ⟨M_5, eM_5, hf⟩ := lt_some hf
    refine g_iast X w_M_4 KD_106 (inR_wrap _) hg_6 hr_4 dX11_learns_83 (fun H locs w_M_5 => ?_)
    rw [← eM_5] at w_M_5
    refine lv_aload_n hx hb dX11_learns_84 rfl (lv_at hl 0 rfl) ?_
    refine g_getr X w_M_5 fg_X11_94 KD_80 FR_80_39 dX11_learns_85 ?_
    refine g_bipush X dX11_learns_88 (by decide) ?_
    refine lv_iload_n hx hb dX11_learns_90 rfl (lv_at hl 2 rfl) ?_
    refine g_imul X dX11_learns_91 ?_
    refine g_iconst X dX11_learns_92 ?_
    refine g_iadd X dX11_learns_93 ?_
    refine lv_aload_n hx hb dX11_learns_94 rfl (lv_at hl 0 rfl) ?_
    refine g_getr X w_M_5 fg_X11_22 KD_80 FR_80_6 dX11_learns_95 ?_
    refine lv_iload_n hx hb dX11_learns_98 rfl (lv_at hl 2 rfl) ?_
    obtain ⟨hg_7, hf⟩ := gd_some hf
    refine g_iald X w_M_5 KD_85 hv2 hg_7 dX11_learns_99 ?_
    obtain ⟨hg_8, hf⟩ := gd_some hf
    obtain ⟨M_6, eM_6, hf⟩ := lt_some hf
    refine g_iast X w_M_5 KD_106 (inR_wrap _) hg_8 (w_M_5.2.2 _ _) dX11_learns_100 (fun H locs w_M_6 => ?_)
    rw [← eM_6] at w_M_6
    refine lv_aload_n hx hb dX11_learns_101 rfl (lv_at hl 0 rfl) ?_
    refine g_getr X w_M_6 fg_X11_94 KD_80 FR_80_39 dX11_learns_102 ?_
    refine g_bipush X dX11_learns_105 (by decide) ?_
    refine lv_iload_n hx hb dX11_learns_107 rfl (lv_at hl 2 rfl) ?_
    refine g_imul X dX11_learns_108 ?_
    refine g_iconst X dX11_learns_109 ?_
    refine g_iadd X dX11_learns_110 ?_
    refine lv_aload_n hx hb dX11_learns_111 rfl (lv_at hl 0 rfl) ?_
    refine lv_iload_n hx hb dX11_learns_112 rfl (lv_at hl 2 rfl) ?_
    obtain ⟨r_5, hc, hf⟩ := obn_some hf
    refine g_cvi (As := [.int (i2 v2)]) (rest := [.int (i2 (wrap ((wrap (7 * v2)) + 5))), .ref (ad 106)]) X w_M_6 (k_X11_wishesOf X.2.2.1 v2 hv2 w_M_6.2.2 hc) lk_X11_313 cl_11 KD_80 ⟨rfl, rfl⟩ ⟨nle rfl, nle rfl⟩ ⟨nle rfl, nle rfl⟩ hl.1 rfl (nle rfl) dX11_learns_113 (fun hr_5 H locs w_M_6 => ?_)
    obtain ⟨hg_9, hf⟩ := gd_some hf
    obtain ⟨M_7, eM_7, hf⟩ := lt_some hf
    refine g_iast X w_M_6 KD_106 (inR_wrap _) hg_9 hr_5 dX11_learns_116 (fun H locs w_M_7 => ?_)
    rw [← eM_7] at w_M_7
    refine lv_aload_n hx hb dX11_learns_117 rfl (lv_at hl 0 rfl) ?_
    refine g_getr X w_M_7 fg_X11_94 KD_80 FR_80_39 dX11_learns_118 ?_
    refine g_bipush X dX11_learns_121 (by decide) ?_
    refine lv_iload_n hx hb dX11_learns_123 rfl (lv_at hl 2 rfl) ?_
    refine g_imul X dX11_learns_124 ?_
    refine g_bipush X dX11_learns_125 (by decide) ?_
    refine g_iadd X dX11_learns_127 ?_
    refine lv_aload_n hx hb dX11_learns_128 rfl (lv_at hl 0 rfl) ?_
    refine lv_iload_n hx hb dX11_learns_129 rfl (lv_at hl 2 rfl) ?_
    obtain ⟨r_6, hc, hf⟩ := obn_some hf
    refine g_cvi (As := [.int (i2 v2)]) (rest := [.int (i2 (wrap ((wrap (7 * v2)) + 6))), .ref (ad 106)]) X w_M_7 (k_X11_namedBy X.2.2.1 v2 hv2 w_M_7.2.2 hc) lk_X11_316 cl_11 KD_80 ⟨rfl, rfl⟩ ⟨nle rfl, nle rfl⟩ ⟨nle rfl, nle rfl⟩ hl.1 rfl (nle rfl) dX11_learns_130 (fun hr_6 H locs w_M_7 => ?_)
    obtain ⟨hg_10, hf⟩ := gd_some hf
    obtain ⟨M_8, eM_8, hf⟩ := lt_some hf
    refine g_iast X w_M_7 KD_106 (inR_wrap _) hg_10 hr_6 dX11_learns_133 (fun H locs w_M_8 => ?_)
    rw [← eM_8] at w_M_8
    obtain ⟨v2_2, ev2_2, hf⟩ := lt_some hf
    have hv2_2 : inR v2_2 := inR_of ev2_2 (inR_wrap _)
    refine lv_iinc (v := i2 v2_2) (lv' := [(2, .int (i2 v2_2)), (0, .ref (ad 80)), (1, .int (i2 v1))]) hx hb dX11_learns_134 hl (k := 2) rfl (by rw [ev2_2]; exact i2_add _ _) (by decide) rfl (fun ls hl => ?_)
    refine lv_goto (tgt := 2) hx hb dX11_learns_137 (by decide) ?_
    exact HC v2_2 M_8 _ _ _ (Option.some.inj hf).symm hv2_2 (lv_sub hl [1, 2, 0] rfl) w_M_8
set_option maxRecDepth 100000 in
set_option maxHeartbeats 4000000 in
theorem l_X11_learns_2 (X : CX p s m args c cX11_learns 4 RX11 D aC ad sg A H0) (v1 : Int) (hv1 : inR v1) {out : Int × Mem} (HE : ∀ (y2 : Int) (M1 : Mem) (H : Heap) (locs : List Loc) (ls : Array Slot), out = (y2, M1) → inR y2 → lv_has ls 4 [(0, .ref (ad 80)), (1, .int (i2 v1)), (2, .int (i2 y2))] → WS D aC ad A H0 M1 H locs → W p l e rm_X11_learns s m args below meth c H locs 0 0 Q (F0 m 140 ls [])) : ∀ (n : Nat) (v2 : Int) (M : Mem), whl (fun s => f_X11_learns_s2 v1 s.1 s.2) n (v2, M) = some out → inR v2 → ∀ {H : Heap} {locs : List Loc} {ls : Array Slot}, lv_has ls 4 [(0, .ref (ad 80)), (1, .int (i2 v1)), (2, .int (i2 v2))] → WS D aC ad A H0 M H locs → W p l e rm_X11_learns s m args below meth c H locs 0 0 Q (F0 m 2 ls []) := by
  intro n
  induction n with
  | zero => intro v2 M hf; exact (whl_zero hf).elim
  | succ n ih =>
    intro v2 M hf hv2 H locs ls hl w
    obtain ⟨o, hf, hk1, hk2⟩ := whl_step hf
    exact b_X11_learns_s2 X v1 hv1 (fun y2 M1 H locs ls eo hy2 hl w => ih y2 M1 (hk1 _ eo) hy2 hl w) (fun y2 M1 H locs ls eo hy2 hl w => HE y2 M1 H locs ls (hk2 _ eo).symm hy2 hl w) v2 hv2 M hf hl w
set_option maxRecDepth 100000 in
set_option maxHeartbeats 4000000 in
theorem b_X11_learns_s154 (X : CX p s m args c cX11_learns 4 RX11 D aC ad sg A H0) (v2 : Int) (hv2 : inR v2) {o : (Int × Mem) ⊕ (Int × Mem)} (HC : ∀ (y3 : Int) (M1 : Mem) (H : Heap) (locs : List Loc) (ls : Array Slot), o = .inl (y3, M1) → inR y3 → lv_has ls 4 [(0, .ref (ad 80)), (2, .int (i2 v2)), (3, .int (i2 y3))] → WS D aC ad A H0 M1 H locs → W p l e rm_X11_learns s m args below meth c H locs 0 0 Q (F0 m 154 ls [])) (HE : ∀ (y3 : Int) (M1 : Mem) (H : Heap) (locs : List Loc) (ls : Array Slot), o = .inr (y3, M1) → inR y3 → lv_has ls 4 [(0, .ref (ad 80)), (2, .int (i2 v2)), (3, .int (i2 y3))] → WS D aC ad A H0 M1 H locs → W p l e rm_X11_learns s m args below meth c H locs 0 0 Q (F0 m 203 ls [])) (v3 : Int) (hv3 : inR v3) (M : Mem) (hf : f_X11_learns_s154 v2 v3 M = some o) {H : Heap} {locs : List Loc} {ls : Array Slot} (hl : lv_has ls 4 [(0, .ref (ad 80)), (2, .int (i2 v2)), (3, .int (i2 v3))]) (w : WS D aC ad A H0 M H locs) : W p l e rm_X11_learns s m args below meth c H locs 0 0 Q (F0 m 154 ls []) := by
  have hx := X.1.1
  have hb := X.1.2.1
  unfold f_X11_learns_s154 at hf
  refine lv_iload_n hx hb dX11_learns_154 rfl (lv_at hl 2 rfl) ?_
  refine lv_aload_n hx hb dX11_learns_155 rfl (lv_at hl 0 rfl) ?_
  refine g_geti X w fg_X11_142 KD_80 FR_80_1 dX11_learns_156 ?_
  refine g_icmp_ge (tgt := 203) X hv3 (w.2.2 _ _) dX11_learns_159 (by decide) (fun cd => ?_) (fun cd => ?_)
  · replace hf := ite_t cd hf
    exact HE v3 M _ _ _ (Option.some.inj hf).symm hv3 hl w
  · replace hf := ite_f cd hf
    refine lv_aload_n hx hb dX11_learns_162 rfl (lv_at hl 0 rfl) ?_
    refine g_getr X w fg_X11_97 KD_80 FR_80_40 dX11_learns_163 ?_
    refine g_bipush X dX11_learns_166 (by decide) ?_
    refine lv_iload_n hx hb dX11_learns_168 rfl (lv_at hl 1 rfl) ?_
    refine g_imul X dX11_learns_169 ?_
    refine lv_iload_n hx hb dX11_learns_170 rfl (lv_at hl 2 rfl) ?_
    refine g_iadd X dX11_learns_171 ?_
    refine lv_aload_n hx hb dX11_learns_172 rfl (lv_at hl 0 rfl) ?_
    refine g_getr X w fg_X11_72 KD_80 FR_80_26 dX11_learns_173 ?_
    refine lv_iload_n hx hb dX11_learns_176 rfl (lv_at hl 1 rfl) ?_
    obtain ⟨hg, hf⟩ := gd_some hf
    refine g_iald X w KD_100 hv2 hg dX11_learns_177 ?_
    refine g_iconst X dX11_learns_178 ?_
    refine g_icmp_eq (tgt := 195) X (w.2.2 _ _) (inL rfl) dX11_learns_179 (by decide) (fun cd_2 => ?_) (fun cd_2 => ?_)
    · replace hf := ite_t cd_2 hf
      refine g_iconst X dX11_learns_195 ?_
      obtain ⟨hg_2, hf⟩ := gd_some hf
      obtain ⟨M_2, eM_2, hf⟩ := lt_some hf
      refine g_zast X w KD_107 (inR_wrap _) hg_2 (Or.inl rfl) dX11_learns_196 (fun H locs w_M_2 => ?_)
      rw [← eM_2] at w_M_2
      obtain ⟨v3_2, ev3_2, hf⟩ := lt_some hf
      have hv3_2 : inR v3_2 := inR_of ev3_2 (inR_wrap _)
      refine lv_iinc (v := i2 v3_2) (lv' := [(3, .int (i2 v3_2)), (0, .ref (ad 80)), (2, .int (i2 v2))]) hx hb dX11_learns_197 hl (k := 2) rfl (by rw [ev3_2]; exact i2_add _ _) (by decide) rfl (fun ls hl => ?_)
      refine lv_goto (tgt := 154) hx hb dX11_learns_200 (by decide) ?_
      exact HC v3_2 M_2 _ _ _ (Option.some.inj hf).symm hv3_2 (lv_sub hl [1, 2, 0] rfl) w_M_2
    · replace hf := ite_f cd_2 hf
      refine lv_aload_n hx hb dX11_learns_182 rfl (lv_at hl 0 rfl) ?_
      refine lv_iload_n hx hb dX11_learns_183 rfl (lv_at hl 1 rfl) ?_
      refine lv_iload_n hx hb dX11_learns_184 rfl (lv_at hl 2 rfl) ?_
      obtain ⟨r, hc, hf⟩ := obn_some hf
      refine g_cvi (As := [.int (i2 v2), .int (i2 v3)]) (rest := [.int (i2 (wrap ((wrap (14 * v2)) + v3))), .ref (ad 107)]) X w (k_X11_allHold X.2.2.1 v2 hv2 v3 hv3 w.2.2 hc) lk_X11_319 cl_11 KD_80 ⟨rfl, rfl⟩ ⟨nle rfl, nle rfl⟩ ⟨nle rfl, nle rfl⟩ hl.1 rfl (nle rfl) dX11_learns_185 (fun hr H locs w => ?_)
      refine g_if_eq (tgt := 195) X hr dX11_learns_188 (by decide) (fun cd_3 => ?_) (fun cd_3 => ?_)
      · replace hf := ite_t cd_3 hf
        refine g_iconst X dX11_learns_195 ?_
        obtain ⟨hg_3, hf⟩ := gd_some hf
        obtain ⟨M_3, eM_3, hf⟩ := lt_some hf
        refine g_zast X w KD_107 (inR_wrap _) hg_3 (Or.inl rfl) dX11_learns_196 (fun H locs w_M_3 => ?_)
        rw [← eM_3] at w_M_3
        obtain ⟨v3_3, ev3_3, hf⟩ := lt_some hf
        have hv3_3 : inR v3_3 := inR_of ev3_3 (inR_wrap _)
        refine lv_iinc (v := i2 v3_3) (lv' := [(3, .int (i2 v3_3)), (0, .ref (ad 80)), (2, .int (i2 v2))]) hx hb dX11_learns_197 hl (k := 2) rfl (by rw [ev3_3]; exact i2_add _ _) (by decide) rfl (fun ls hl => ?_)
        refine lv_goto (tgt := 154) hx hb dX11_learns_200 (by decide) ?_
        exact HC v3_3 M_3 _ _ _ (Option.some.inj hf).symm hv3_3 (lv_sub hl [1, 2, 0] rfl) w_M_3
      · replace hf := ite_f cd_3 hf
        refine g_iconst X dX11_learns_191 ?_
        refine lv_goto (tgt := 196) hx hb dX11_learns_192 (by decide) ?_
        obtain ⟨hg_4, hf⟩ := gd_some hf
        obtain ⟨M_4, eM_4, hf⟩ := lt_some hf
        refine g_zast X w KD_107 (inR_wrap _) hg_4 (Or.inr rfl) dX11_learns_196 (fun H locs w_M_4 => ?_)
        rw [← eM_4] at w_M_4
        obtain ⟨v3_4, ev3_4, hf⟩ := lt_some hf
        have hv3_4 : inR v3_4 := inR_of ev3_4 (inR_wrap _)
        refine lv_iinc (v := i2 v3_4) (lv' := [(3, .int (i2 v3_4)), (0, .ref (ad 80)), (2, .int (i2 v2))]) hx hb dX11_learns_197 hl (k := 2) rfl (by rw [ev3_4]; exact i2_add _ _) (by decide) rfl (fun ls hl => ?_)
        refine lv_goto (tgt := 154) hx hb dX11_learns_200 (by decide) ?_
        exact HC v3_4 M_4 _ _ _ (Option.some.inj hf).symm hv3_4 (lv_sub hl [1, 2, 0] rfl) w_M_4
set_option maxRecDepth 100000 in
set_option maxHeartbeats 4000000 in
theorem l_X11_learns_154 (X : CX p s m args c cX11_learns 4 RX11 D aC ad sg A H0) (v2 : Int) (hv2 : inR v2) {out : Int × Mem} (HE : ∀ (y3 : Int) (M1 : Mem) (H : Heap) (locs : List Loc) (ls : Array Slot), out = (y3, M1) → inR y3 → lv_has ls 4 [(0, .ref (ad 80)), (2, .int (i2 v2)), (3, .int (i2 y3))] → WS D aC ad A H0 M1 H locs → W p l e rm_X11_learns s m args below meth c H locs 0 0 Q (F0 m 203 ls [])) : ∀ (n : Nat) (v3 : Int) (M : Mem), whl (fun s => f_X11_learns_s154 v2 s.1 s.2) n (v3, M) = some out → inR v3 → ∀ {H : Heap} {locs : List Loc} {ls : Array Slot}, lv_has ls 4 [(0, .ref (ad 80)), (2, .int (i2 v2)), (3, .int (i2 v3))] → WS D aC ad A H0 M H locs → W p l e rm_X11_learns s m args below meth c H locs 0 0 Q (F0 m 154 ls []) := by
  intro n
  induction n with
  | zero => intro v3 M hf; exact (whl_zero hf).elim
  | succ n ih =>
    intro v3 M hf hv3 H locs ls hl w
    obtain ⟨o, hf, hk1, hk2⟩ := whl_step hf
    exact b_X11_learns_s154 X v2 hv2 (fun y3 M1 H locs ls eo hy3 hl w => ih y3 M1 (hk1 _ eo) hy3 hl w) (fun y3 M1 H locs ls eo hy3 hl w => HE y3 M1 H locs ls (hk2 _ eo).symm hy3 hl w) v3 hv3 M hf hl w
set_option maxRecDepth 100000 in
set_option maxHeartbeats 4000000 in
theorem b_X11_learns_j203k142 (X : CX p s m args c cX11_learns 4 RX11 D aC ad sg A H0) {o : (Int × Mem) ⊕ (Int × Mem)} (HC : ∀ (y2 : Int) (M1 : Mem) (H : Heap) (locs : List Loc) (ls : Array Slot), o = .inl (y2, M1) → inR y2 → lv_has ls 4 [(0, .ref (ad 80)), (2, .int (i2 y2))] → WS D aC ad A H0 M1 H locs → W p l e rm_X11_learns s m args below meth c H locs 0 0 Q (F0 m 142 ls [])) (HE : ∀ (y2 : Int) (M1 : Mem) (H : Heap) (locs : List Loc) (ls : Array Slot), o = .inr (y2, M1) → inR y2 → lv_has ls 4 [(0, .ref (ad 80)), (2, .int (i2 y2))] → WS D aC ad A H0 M1 H locs → W p l e rm_X11_learns s m args below meth c H locs 0 0 Q (F0 m 209 ls [])) (v2 : Int) (hv2 : inR v2) (M : Mem) (hf : f_X11_learns_j203k142 v2 M = some o) {H : Heap} {locs : List Loc} {ls : Array Slot} (hl : lv_has ls 4 [(0, .ref (ad 80)), (2, .int (i2 v2))]) (w : WS D aC ad A H0 M H locs) : W p l e rm_X11_learns s m args below meth c H locs 0 0 Q (F0 m 203 ls []) := by
  have hx := X.1.1
  have hb := X.1.2.1
  unfold f_X11_learns_j203k142 at hf
  obtain ⟨v2_2, ev2_2, hf⟩ := lt_some hf
  have hv2_2 : inR v2_2 := inR_of ev2_2 (inR_wrap _)
  refine lv_iinc (v := i2 v2_2) (lv' := [(2, .int (i2 v2_2)), (0, .ref (ad 80))]) hx hb dX11_learns_203 hl (k := 1) rfl (by rw [ev2_2]; exact i2_add _ _) (by decide) rfl (fun ls hl => ?_)
  refine lv_goto (tgt := 142) hx hb dX11_learns_206 (by decide) ?_
  exact HC v2_2 M _ _ _ (Option.some.inj hf).symm hv2_2 (lv_sub hl [1, 0] rfl) w
set_option maxRecDepth 100000 in
set_option maxHeartbeats 4000000 in
theorem b_X11_learns_s142 (X : CX p s m args c cX11_learns 4 RX11 D aC ad sg A H0) {o : (Int × Mem) ⊕ (Int × Mem)} (HC : ∀ (y2 : Int) (M1 : Mem) (H : Heap) (locs : List Loc) (ls : Array Slot), o = .inl (y2, M1) → inR y2 → lv_has ls 4 [(0, .ref (ad 80)), (2, .int (i2 y2))] → WS D aC ad A H0 M1 H locs → W p l e rm_X11_learns s m args below meth c H locs 0 0 Q (F0 m 142 ls [])) (HE : ∀ (y2 : Int) (M1 : Mem) (H : Heap) (locs : List Loc) (ls : Array Slot), o = .inr (y2, M1) → inR y2 → lv_has ls 4 [(0, .ref (ad 80)), (2, .int (i2 y2))] → WS D aC ad A H0 M1 H locs → W p l e rm_X11_learns s m args below meth c H locs 0 0 Q (F0 m 209 ls [])) (v2 : Int) (hv2 : inR v2) (M : Mem) (hf : f_X11_learns_s142 v2 M = some o) {H : Heap} {locs : List Loc} {ls : Array Slot} (hl : lv_has ls 4 [(0, .ref (ad 80)), (2, .int (i2 v2))]) (w : WS D aC ad A H0 M H locs) : W p l e rm_X11_learns s m args below meth c H locs 0 0 Q (F0 m 142 ls []) := by
  have hx := X.1.1
  have hb := X.1.2.1
  unfold f_X11_learns_s142 at hf
  refine lv_iload_n hx hb dX11_learns_142 rfl (lv_at hl 1 rfl) ?_
  refine g_iconst X dX11_learns_143 ?_
  refine lv_aload_n hx hb dX11_learns_144 rfl (lv_at hl 0 rfl) ?_
  refine g_geti X w fg_X11_307 KD_80 FR_80_21 dX11_learns_145 ?_
  refine g_imul X dX11_learns_148 ?_
  refine g_icmp_ge (tgt := 209) X hv2 (inR_wrap _) dX11_learns_149 (by decide) (fun cd => ?_) (fun cd => ?_)
  · replace hf := ite_t cd hf
    exact HE v2 M _ _ _ (Option.some.inj hf).symm hv2 hl w
  · replace hf := ite_f cd hf
    refine g_iconst X dX11_learns_152 ?_
    refine g_istn (v := 0) (lv' := [(3, .int (i2 0)), (0, .ref (ad 80)), (2, .int (i2 v2))]) X rfl dX11_learns_153 rfl hl (by decide) rfl (fun ls hl => ?_)
    obtain ⟨q, hq, h1⟩ := obn_some hf
    exact l_X11_learns_154 X v2 hv2 (out := q) (fun y3 M1 H locs ls eq hy3 hl w => b_X11_learns_j203k142 X  HC HE v2 hv2 M1 (by subst eq; exact h1) (lv_sub hl [0, 1] rfl) w)  FU 0 M hq (inL rfl) (lv_sub hl [1, 2, 0] rfl) w
set_option maxRecDepth 100000 in
set_option maxHeartbeats 4000000 in
theorem l_X11_learns_142 (X : CX p s m args c cX11_learns 4 RX11 D aC ad sg A H0) {out : Int × Mem} (HE : ∀ (y2 : Int) (M1 : Mem) (H : Heap) (locs : List Loc) (ls : Array Slot), out = (y2, M1) → inR y2 → lv_has ls 4 [(0, .ref (ad 80)), (2, .int (i2 y2))] → WS D aC ad A H0 M1 H locs → W p l e rm_X11_learns s m args below meth c H locs 0 0 Q (F0 m 209 ls [])) : ∀ (n : Nat) (v2 : Int) (M : Mem), whl (fun s => f_X11_learns_s142 s.1 s.2) n (v2, M) = some out → inR v2 → ∀ {H : Heap} {locs : List Loc} {ls : Array Slot}, lv_has ls 4 [(0, .ref (ad 80)), (2, .int (i2 v2))] → WS D aC ad A H0 M H locs → W p l e rm_X11_learns s m args below meth c H locs 0 0 Q (F0 m 142 ls []) := by
  intro n
  induction n with
  | zero => intro v2 M hf; exact (whl_zero hf).elim
  | succ n ih =>
    intro v2 M hf hv2 H locs ls hl w
    obtain ⟨o, hf, hk1, hk2⟩ := whl_step hf
    exact b_X11_learns_s142 X  (fun y2 M1 H locs ls eo hy2 hl w => ih y2 M1 (hk1 _ eo) hy2 hl w) (fun y2 M1 H locs ls eo hy2 hl w => HE y2 M1 H locs ls (hk2 _ eo).symm hy2 hl w) v2 hv2 M hf hl w
set_option maxRecDepth 100000 in
set_option maxHeartbeats 4000000 in
theorem b_X11_learns_j209 (X : CX p s m args c cX11_learns 4 RX11 D aC ad sg A H0) {o : Mem} (HR : ∀ (M1 : Mem) (H : Heap) (locs : List Loc) (pc : Nat) (ls : Array Slot), o = M1 → WS D aC ad A H0 M1 H locs → decode cX11_learns pc = .ok (.return_, 1) → W p l e rm_X11_learns s m args below meth c H locs 0 0 Q (F0 m pc ls [])) (M : Mem) (hf : f_X11_learns_j209 M = some o) {H : Heap} {locs : List Loc} {ls : Array Slot} (hl : lv_has ls 4 []) (w : WS D aC ad A H0 M H locs) : W p l e rm_X11_learns s m args below meth c H locs 0 0 Q (F0 m 209 ls []) := by
  have hx := X.1.1
  have hb := X.1.2.1
  unfold f_X11_learns_j209 at hf
  exact HR M _ _ _ _ (Option.some.inj hf).symm w dX11_learns_209
set_option maxRecDepth 100000 in
set_option maxHeartbeats 4000000 in
theorem b_X11_learns_j140 (X : CX p s m args c cX11_learns 4 RX11 D aC ad sg A H0) {o : Mem} (HR : ∀ (M1 : Mem) (H : Heap) (locs : List Loc) (pc : Nat) (ls : Array Slot), o = M1 → WS D aC ad A H0 M1 H locs → decode cX11_learns pc = .ok (.return_, 1) → W p l e rm_X11_learns s m args below meth c H locs 0 0 Q (F0 m pc ls [])) (M : Mem) (hf : f_X11_learns_j140 M = some o) {H : Heap} {locs : List Loc} {ls : Array Slot} (hl : lv_has ls 4 [(0, .ref (ad 80))]) (w : WS D aC ad A H0 M H locs) : W p l e rm_X11_learns s m args below meth c H locs 0 0 Q (F0 m 140 ls []) := by
  have hx := X.1.1
  have hb := X.1.2.1
  unfold f_X11_learns_j140 at hf
  refine g_iconst X dX11_learns_140 ?_
  refine g_istn (v := 0) (lv' := [(2, .int (i2 0)), (0, .ref (ad 80))]) X rfl dX11_learns_141 rfl hl (by decide) rfl (fun ls hl => ?_)
  obtain ⟨q, hq, h1⟩ := obn_some hf
  exact l_X11_learns_142 X  (out := q) (fun y2 M1 H locs ls eq hy2 hl w => b_X11_learns_j209 X  HR M1 (by subst eq; exact h1) (lv_sub hl [] rfl) w)  FU 0 M hq (inL rfl) (lv_sub hl [1, 0] rfl) w
set_option maxRecDepth 100000 in
set_option maxHeartbeats 4000000 in
theorem b_X11_learns_0 (X : CX p s m args c cX11_learns 4 RX11 D aC ad sg A H0) {o : Mem} (HR : ∀ (M1 : Mem) (H : Heap) (locs : List Loc) (pc : Nat) (ls : Array Slot), o = M1 → WS D aC ad A H0 M1 H locs → decode cX11_learns pc = .ok (.return_, 1) → W p l e rm_X11_learns s m args below meth c H locs 0 0 Q (F0 m pc ls [])) (p1 : Int) (hp1 : inR p1) (M : Mem) (hf : f_X11_learns p1 M = some o) {H : Heap} {locs : List Loc} {ls : Array Slot} (hl : lv_has ls 4 [(0, .ref (ad 80)), (1, .int (i2 p1))]) (w : WS D aC ad A H0 M H locs) : W p l e rm_X11_learns s m args below meth c H locs 0 0 Q (F0 m 0 ls []) := by
  have hx := X.1.1
  have hb := X.1.2.1
  unfold f_X11_learns at hf
  refine g_iconst X dX11_learns_0 ?_
  refine g_istn (v := 0) (lv' := [(2, .int (i2 0)), (0, .ref (ad 80)), (1, .int (i2 p1))]) X rfl dX11_learns_1 rfl hl (by decide) rfl (fun ls hl => ?_)
  obtain ⟨q, hq, h1⟩ := obn_some hf
  exact l_X11_learns_2 X p1 hp1 (out := q) (fun y2 M1 H locs ls eq hy2 hl w => b_X11_learns_j140 X  HR M1 (by subst eq; exact h1) (lv_sub hl [0] rfl) w)  FU 0 M hq (inL rfl) (lv_sub hl [1, 2, 0] rfl) w
set_option maxRecDepth 100000 in
set_option maxHeartbeats 4000000 in
theorem k_X11_learns {l : Launch} {D : va_G} {aC : Nat → ClassId} {ad : Nat → Nat} {sg : SG} (hi : Inj ad) (p1 : Int) (hp1 : inR p1) {M : Mem} (hM : inM M) {M' : Mem} (hf : f_X11_learns p1 M = some M') : MetV l D aC ad sg yX11_learns cX11_learns 4 rm_X11_learns 0 0 [.ref (ad 80), .int (i2 p1)] M M' := by
  refine MetV.of (by decide +kernel) (nle rfl) hi hM (fun p e s m args below meth c Q H0 ls X hl w hret => ?_)
  exact b_X11_learns_0 X  (fun M1 H locs pc ls eo w dg => by cases eo; exact hret H locs pc ls w dg) p1 hp1 M hf hl w
set_option maxRecDepth 100000 in
set_option maxHeartbeats 4000000 in
theorem b_X11_holds_0 (X : CX p s m args c cX11_holds 5 RX11 D aC ad sg A H0) {o : Int × Mem} (HR : ∀ (r : Int) (M1 : Mem) (H : Heap) (locs : List Loc) (pc : Nat) (ls : Array Slot), o = (r, M1) → inR r → WS D aC ad A H0 M1 H locs → decode cX11_holds pc = .ok (.ireturn, 1) → W p l e rm_X11_holds s m args below meth c H locs 0 0 Q (F0 m pc ls [.int (i2 r)])) (p1 : Int) (hp1 : inR p1) (p2 : Int) (hp2 : inR p2) (p3 : Int) (hp3 : inR p3) (p4 : Int) (hp4 : inR p4) (M : Mem) (hf : f_X11_holds p1 p2 p3 p4 M = some o) {H : Heap} {locs : List Loc} {ls : Array Slot} (hl : lv_has ls 5 [(0, .ref (ad 80)), (1, .int (i2 p1)), (2, .int (i2 p2)), (3, .int (i2 p3)), (4, .int (i2 p4))]) (w : WS D aC ad A H0 M H locs) : W p l e rm_X11_holds s m args below meth c H locs 0 0 Q (F0 m 0 ls []) := by
  have hx := X.1.1
  have hb := X.1.2.1
  unfold f_X11_holds at hf
  refine lv_aload_n hx hb dX11_holds_0 rfl (lv_at hl 0 rfl) ?_
  refine g_iconst X dX11_holds_1 ?_
  obtain ⟨M_2, eM_2, hf⟩ := lt_some hf
  refine g_puti X w fp_X11_139 KD_80 FR_80_0 (inL rfl) dX11_holds_2 (fun H locs w_M_2 => ?_)
  rw [← eM_2] at w_M_2
  refine lv_iload_n hx hb dX11_holds_5 rfl (lv_at hl 1 rfl) ?_
  refine g_iconst X dX11_holds_6 ?_
  refine lv_aload_n hx hb dX11_holds_7 rfl (lv_at hl 0 rfl) ?_
  refine g_geti X w_M_2 fg_X11_307 KD_80 FR_80_21 dX11_holds_8 ?_
  refine g_iconst X dX11_holds_11 ?_
  refine g_isub X dX11_holds_12 ?_
  obtain ⟨r, hc, hf⟩ := obn_some hf
  refine g_csi (As := [.int (i2 p1), .int (i2 0), .int (i2 (wrap ((M_2 80 21) - 1)))]) (rest := []) X w_M_2 (k_X11_within X.2.2.1 p1 hp1 0 (inL rfl) (wrap ((M_2 80 21) - 1)) (inR_wrap _) w_M_2.2.2 hc) lk_X11_145 ⟨rfl, rfl⟩ ⟨nle rfl, nle rfl⟩ ⟨nle rfl, nle rfl⟩ hl.1 rfl (nle rfl) dX11_holds_13 (fun hr H locs w_M_2 => ?_)
  refine g_if_eq (tgt := 63) X hr dX11_holds_16 (by decide) (fun cd => ?_) (fun cd => ?_)
  · replace hf := ite_t cd hf
    refine g_iconst X dX11_holds_63 ?_
    exact HR (-1) M_2 _ _ _ _ (Option.some.inj hf).symm (inL rfl) w_M_2 dX11_holds_64
  · replace hf := ite_f cd hf
    refine lv_iload_n hx hb dX11_holds_19 rfl (lv_at hl 2 rfl) ?_
    refine g_iconst X dX11_holds_20 ?_
    refine g_iconst X dX11_holds_21 ?_
    obtain ⟨r_2, hc, hf⟩ := obn_some hf
    refine g_csi (As := [.int (i2 p2), .int (i2 0), .int (i2 1)]) (rest := []) X w_M_2 (k_X11_within X.2.2.1 p2 hp2 0 (inL rfl) 1 (inL rfl) w_M_2.2.2 hc) lk_X11_145 ⟨rfl, rfl⟩ ⟨nle rfl, nle rfl⟩ ⟨nle rfl, nle rfl⟩ hl.1 rfl (nle rfl) dX11_holds_22 (fun hr_2 H locs w_M_2 => ?_)
    refine g_if_eq (tgt := 63) X hr_2 dX11_holds_25 (by decide) (fun cd_2 => ?_) (fun cd_2 => ?_)
    · replace hf := ite_t cd_2 hf
      refine g_iconst X dX11_holds_63 ?_
      exact HR (-1) M_2 _ _ _ _ (Option.some.inj hf).symm (inL rfl) w_M_2 dX11_holds_64
    · replace hf := ite_f cd_2 hf
      refine lv_aload_n hx hb dX11_holds_28 rfl (lv_at hl 0 rfl) ?_
      refine lv_iload_n hx hb dX11_holds_29 rfl (lv_at hl 3 rfl) ?_
      obtain ⟨r_3, hc, hf⟩ := obn_some hf
      refine g_cvi (As := [.int (i2 p3)]) (rest := []) X w_M_2 (k_X11_isChild X.2.2.1 p3 hp3 w_M_2.2.2 hc) lk_X11_149 cl_11 KD_80 ⟨rfl, rfl⟩ ⟨nle rfl, nle rfl⟩ ⟨nle rfl, nle rfl⟩ hl.1 rfl (nle rfl) dX11_holds_30 (fun hr_3 H locs w_M_2 => ?_)
      refine g_if_eq (tgt := 63) X hr_3 dX11_holds_33 (by decide) (fun cd_3 => ?_) (fun cd_3 => ?_)
      · replace hf := ite_t cd_3 hf
        refine g_iconst X dX11_holds_63 ?_
        exact HR (-1) M_2 _ _ _ _ (Option.some.inj hf).symm (inL rfl) w_M_2 dX11_holds_64
      · replace hf := ite_f cd_3 hf
        refine lv_iload hx hb dX11_holds_36 (lv_at hl 4 rfl) ?_
        refine g_iconst X dX11_holds_38 ?_
        refine lv_aload_n hx hb dX11_holds_39 rfl (lv_at hl 0 rfl) ?_
        refine g_geti X w_M_2 fg_X11_153 KD_80 FR_80_14 dX11_holds_40 ?_
        obtain ⟨r_4, hc, hf⟩ := obn_some hf
        refine g_csi (As := [.int (i2 p4), .int (i2 0), .int (i2 (M_2 80 14))]) (rest := []) X w_M_2 (k_X11_within X.2.2.1 p4 hp4 0 (inL rfl) (M_2 80 14) (w_M_2.2.2 _ _) w_M_2.2.2 hc) lk_X11_145 ⟨rfl, rfl⟩ ⟨nle rfl, nle rfl⟩ ⟨nle rfl, nle rfl⟩ hl.1 rfl (nle rfl) dX11_holds_43 (fun hr_4 H locs w_M_2 => ?_)
        refine g_if_eq (tgt := 63) X hr_4 dX11_holds_46 (by decide) (fun cd_4 => ?_) (fun cd_4 => ?_)
        · replace hf := ite_t cd_4 hf
          refine g_iconst X dX11_holds_63 ?_
          exact HR (-1) M_2 _ _ _ _ (Option.some.inj hf).symm (inL rfl) w_M_2 dX11_holds_64
        · replace hf := ite_f cd_4 hf
          refine lv_aload_n hx hb dX11_holds_49 rfl (lv_at hl 0 rfl) ?_
          refine g_getr X w_M_2 fg_X11_72 KD_80 FR_80_26 dX11_holds_50 ?_
          refine g_iconst X dX11_holds_53 ?_
          refine lv_iload_n hx hb dX11_holds_54 rfl (lv_at hl 1 rfl) ?_
          refine g_imul X dX11_holds_55 ?_
          refine lv_iload_n hx hb dX11_holds_56 rfl (lv_at hl 2 rfl) ?_
          refine g_iadd X dX11_holds_57 ?_
          obtain ⟨hg, hf⟩ := gd_some hf
          refine g_iald X w_M_2 KD_100 (inR_wrap _) hg dX11_holds_58 ?_
          refine g_iconst X dX11_holds_59 ?_
          refine g_icmp_ne (tgt := 65) X (w_M_2.2.2 _ _) (inL rfl) dX11_holds_60 (by decide) (fun cd_5 => ?_) (fun cd_5 => ?_)
          · replace hf := ite_f cd_5 hf
            refine lv_aload_n hx hb dX11_holds_65 rfl (lv_at hl 0 rfl) ?_
            refine lv_iload hx hb dX11_holds_66 (lv_at hl 4 rfl) ?_
            obtain ⟨M_3, hc, hf⟩ := obn_some hf
            refine g_cvv (As := [.int (i2 p4)]) (rest := []) X w_M_2 (k_X11_learns X.2.2.1 p4 hp4 w_M_2.2.2 hc) lk_X11_322 cl_11 KD_80 ⟨rfl, rfl⟩ ⟨nle rfl, nle rfl⟩ ⟨nle rfl, nle rfl⟩ hl.1 rfl (nle rfl) dX11_holds_68 (fun H locs w_M_3 => ?_)
            refine lv_aload_n hx hb dX11_holds_71 rfl (lv_at hl 0 rfl) ?_
            refine g_getr X w_M_3 fg_X11_97 KD_80 FR_80_40 dX11_holds_72 ?_
            refine g_bipush X dX11_holds_75 (by decide) ?_
            refine g_iconst X dX11_holds_77 ?_
            refine lv_iload_n hx hb dX11_holds_78 rfl (lv_at hl 1 rfl) ?_
            refine g_imul X dX11_holds_79 ?_
            refine lv_iload_n hx hb dX11_holds_80 rfl (lv_at hl 2 rfl) ?_
            refine g_iadd X dX11_holds_81 ?_
            refine g_imul X dX11_holds_82 ?_
            refine lv_iload_n hx hb dX11_holds_83 rfl (lv_at hl 3 rfl) ?_
            refine g_iadd X dX11_holds_84 ?_
            obtain ⟨hg_2, hf⟩ := gd_some hf
            refine g_zald X w_M_3 KD_107 (inR_wrap _) hg_2 dX11_holds_85 ?_
            refine g_if_eq (tgt := 93) X (w_M_3.2.2 _ _) dX11_holds_86 (by decide) (fun cd_6 => ?_) (fun cd_6 => ?_)
            · replace hf := ite_t cd_6 hf
              refine g_iconst X dX11_holds_93 ?_
              exact HR 0 M_3 _ _ _ _ (Option.some.inj hf).symm (inL rfl) w_M_3 dX11_holds_94
            · replace hf := ite_f cd_6 hf
              refine g_iconst X dX11_holds_89 ?_
              refine lv_goto (tgt := 94) hx hb dX11_holds_90 (by decide) ?_
              exact HR 1 M_3 _ _ _ _ (Option.some.inj hf).symm (inL rfl) w_M_3 dX11_holds_94
          · replace hf := ite_t cd_5 hf
            refine g_iconst X dX11_holds_63 ?_
            exact HR (-1) M_2 _ _ _ _ (Option.some.inj hf).symm (inL rfl) w_M_2 dX11_holds_64
set_option maxRecDepth 100000 in
set_option maxHeartbeats 4000000 in
theorem k_X11_holds {l : Launch} {D : va_G} {aC : Nat → ClassId} {ad : Nat → Nat} {sg : SG} (hi : Inj ad) (p1 : Int) (hp1 : inR p1) (p2 : Int) (hp2 : inR p2) (p3 : Int) (hp3 : inR p3) (p4 : Int) (hp4 : inR p4) {M : Mem} (hM : inM M) {r : Int} {M' : Mem} (hf : f_X11_holds p1 p2 p3 p4 M = some (r, M')) : MetI l D aC ad sg yX11_holds cX11_holds 5 (some .int) rm_X11_holds 0 0 [.ref (ad 80), .int (i2 p1), .int (i2 p2), .int (i2 p3), .int (i2 p4)] M r M' := by
  refine MetI.ofI (by decide +kernel) (nle rfl) hi hM (fun p e s m args below meth c Q H0 ls X hl w hret => ?_)
  exact b_X11_holds_0 X  (fun r1 M1 H locs pc ls eo hP w dg => by cases eo; exact hret H locs pc ls hP w dg) p1 hp1 p2 hp2 p3 hp3 p4 hp4 M hf hl w
set_option maxRecDepth 100000 in
set_option maxHeartbeats 4000000 in
theorem b_X11_day_s32 (X : CX p s m args c cX11_day 3 RX11 D aC ad sg A H0) (v1 : Int) (hv1 : inR v1) {o : (Int × Mem) ⊕ (Int × Mem)} (HC : ∀ (y2 : Int) (M1 : Mem) (H : Heap) (locs : List Loc) (ls : Array Slot), o = .inl (y2, M1) → inR y2 → lv_has ls 3 [(0, .ref (ad 80)), (1, .int (i2 v1)), (2, .int (i2 y2))] → WS D aC ad A H0 M1 H locs → W p l e rm_X11_day s m args below meth c H locs 0 0 Q (F0 m 32 ls [])) (HE : ∀ (y2 : Int) (M1 : Mem) (H : Heap) (locs : List Loc) (ls : Array Slot), o = .inr (y2, M1) → inR y2 → lv_has ls 3 [(0, .ref (ad 80)), (1, .int (i2 v1)), (2, .int (i2 y2))] → WS D aC ad A H0 M1 H locs → W p l e rm_X11_day s m args below meth c H locs 0 0 Q (F0 m 138 ls [])) (v2 : Int) (hv2 : inR v2) (M : Mem) (hf : f_X11_day_s32 v1 v2 M = some o) {H : Heap} {locs : List Loc} {ls : Array Slot} (hl : lv_has ls 3 [(0, .ref (ad 80)), (1, .int (i2 v1)), (2, .int (i2 v2))]) (w : WS D aC ad A H0 M H locs) : W p l e rm_X11_day s m args below meth c H locs 0 0 Q (F0 m 32 ls []) := by
  have hx := X.1.1
  have hb := X.1.2.1
  unfold f_X11_day_s32 at hf
  refine lv_iload_n hx hb dX11_day_32 rfl (lv_at hl 2 rfl) ?_
  refine lv_aload_n hx hb dX11_day_33 rfl (lv_at hl 0 rfl) ?_
  refine g_geti X w fg_X11_142 KD_80 FR_80_1 dX11_day_34 ?_
  refine g_icmp_ge (tgt := 138) X hv2 (w.2.2 _ _) dX11_day_37 (by decide) (fun cd => ?_) (fun cd => ?_)
  · replace hf := ite_t cd hf
    exact HE v2 M _ _ _ (Option.some.inj hf).symm hv2 hl w
  · replace hf := ite_f cd hf
    refine lv_iload_n hx hb dX11_day_40 rfl (lv_at hl 1 rfl) ?_
    refine g_if_le (tgt := 138) X hv1 dX11_day_41 (by decide) (fun cd_2 => ?_) (fun cd_2 => ?_)
    · replace hf := ite_t cd_2 hf
      exact HE v2 M _ _ _ (Option.some.inj hf).symm hv2 hl w
    · replace hf := ite_f cd_2 hf
      refine lv_aload_n hx hb dX11_day_44 rfl (lv_at hl 0 rfl) ?_
      refine g_getr X w fg_X11_106 KD_80 FR_80_47 dX11_day_45 ?_
      refine lv_iload_n hx hb dX11_day_48 rfl (lv_at hl 2 rfl) ?_
      obtain ⟨hg, hf⟩ := gd_some hf
      refine g_iald X w KD_110 hv2 hg dX11_day_49 ?_
      refine lv_aload_n hx hb dX11_day_50 rfl (lv_at hl 0 rfl) ?_
      refine g_getr X w fg_X11_136 KD_80 FR_80_60 dX11_day_51 ?_
      refine lv_iload_n hx hb dX11_day_54 rfl (lv_at hl 2 rfl) ?_
      obtain ⟨hg_2, hf⟩ := gd_some hf
      refine g_iald X w KD_119 hv2 hg_2 dX11_day_55 ?_
      refine g_icmp_eq (tgt := 132) X (w.2.2 _ _) (w.2.2 _ _) dX11_day_56 (by decide) (fun cd_3 => ?_) (fun cd_3 => ?_)
      · replace hf := ite_t cd_3 hf
        obtain ⟨v2_2, ev2_2, hf⟩ := lt_some hf
        have hv2_2 : inR v2_2 := inR_of ev2_2 (inR_wrap _)
        refine lv_iinc (v := i2 v2_2) (lv' := [(2, .int (i2 v2_2)), (0, .ref (ad 80)), (1, .int (i2 v1))]) hx hb dX11_day_132 hl (k := 2) rfl (by rw [ev2_2]; exact i2_add _ _) (by decide) rfl (fun ls hl => ?_)
        refine lv_goto (tgt := 32) hx hb dX11_day_135 (by decide) ?_
        exact HC v2_2 M _ _ _ (Option.some.inj hf).symm hv2_2 (lv_sub hl [1, 2, 0] rfl) w
      · replace hf := ite_f cd_3 hf
        refine lv_aload_n hx hb dX11_day_59 rfl (lv_at hl 0 rfl) ?_
        refine g_geti X w fg_X11_409 KD_80 FR_80_56 dX11_day_60 ?_
        refine g_sipush X dX11_day_63 (by decide) ?_
        refine g_icmp_ne (tgt := 72) X (w.2.2 _ _) (inL rfl) dX11_day_66 (by decide) (fun cd_4 => ?_) (fun cd_4 => ?_)
        · replace hf := ite_f cd_4 hf
          refine lv_aload_n hx hb dX11_day_72 rfl (lv_at hl 0 rfl) ?_
          refine g_getr X w fg_X11_127 KD_80 FR_80_57 dX11_day_73 ?_
          refine lv_aload_n hx hb dX11_day_76 rfl (lv_at hl 0 rfl) ?_
          refine g_geti X w fg_X11_409 KD_80 FR_80_56 dX11_day_77 ?_
          refine lv_iload_n hx hb dX11_day_80 rfl (lv_at hl 2 rfl) ?_
          obtain ⟨hg_3, hf⟩ := gd_some hf
          obtain ⟨M_2, eM_2, hf⟩ := lt_some hf
          refine g_iast X w KD_116 (w.2.2 _ _) hg_3 hv2 dX11_day_81 (fun H locs w_M_2 => ?_)
          rw [← eM_2] at w_M_2
          refine lv_aload_n hx hb dX11_day_82 rfl (lv_at hl 0 rfl) ?_
          refine g_getr X w_M_2 fg_X11_130 KD_80 FR_80_58 dX11_day_83 ?_
          refine lv_aload_n hx hb dX11_day_86 rfl (lv_at hl 0 rfl) ?_
          refine g_geti X w_M_2 fg_X11_409 KD_80 FR_80_56 dX11_day_87 ?_
          refine lv_aload_n hx hb dX11_day_90 rfl (lv_at hl 0 rfl) ?_
          refine g_geti X w_M_2 fg_X11_153 KD_80 FR_80_14 dX11_day_91 ?_
          obtain ⟨hg_4, hf⟩ := gd_some hf
          obtain ⟨M_3, eM_3, hf⟩ := lt_some hf
          refine g_iast X w_M_2 KD_117 (w_M_2.2.2 _ _) hg_4 (w_M_2.2.2 _ _) dX11_day_94 (fun H locs w_M_3 => ?_)
          rw [← eM_3] at w_M_3
          refine lv_aload_n hx hb dX11_day_95 rfl (lv_at hl 0 rfl) ?_
          refine g_getr X w_M_3 fg_X11_133 KD_80 FR_80_59 dX11_day_96 ?_
          refine lv_aload_n hx hb dX11_day_99 rfl (lv_at hl 0 rfl) ?_
          refine g_geti X w_M_3 fg_X11_409 KD_80 FR_80_56 dX11_day_100 ?_
          refine lv_aload_n hx hb dX11_day_103 rfl (lv_at hl 0 rfl) ?_
          refine g_getr X w_M_3 fg_X11_106 KD_80 FR_80_47 dX11_day_104 ?_
          refine lv_iload_n hx hb dX11_day_107 rfl (lv_at hl 2 rfl) ?_
          obtain ⟨hg_5, hf⟩ := gd_some hf
          refine g_iald X w_M_3 KD_110 hv2 hg_5 dX11_day_108 ?_
          obtain ⟨hg_6, hf⟩ := gd_some hf
          obtain ⟨M_4, eM_4, hf⟩ := lt_some hf
          refine g_iast X w_M_3 KD_118 (w_M_3.2.2 _ _) hg_6 (w_M_3.2.2 _ _) dX11_day_109 (fun H locs w_M_4 => ?_)
          rw [← eM_4] at w_M_4
          refine lv_aload_n hx hb dX11_day_110 rfl (lv_at hl 0 rfl) ?_
          refine g_getr X w_M_4 fg_X11_136 KD_80 FR_80_60 dX11_day_111 ?_
          refine lv_iload_n hx hb dX11_day_114 rfl (lv_at hl 2 rfl) ?_
          refine lv_aload_n hx hb dX11_day_115 rfl (lv_at hl 0 rfl) ?_
          refine g_getr X w_M_4 fg_X11_106 KD_80 FR_80_47 dX11_day_116 ?_
          refine lv_iload_n hx hb dX11_day_119 rfl (lv_at hl 2 rfl) ?_
          obtain ⟨hg_7, hf⟩ := gd_some hf
          refine g_iald X w_M_4 KD_110 hv2 hg_7 dX11_day_120 ?_
          obtain ⟨hg_8, hf⟩ := gd_some hf
          obtain ⟨M_5, eM_5, hf⟩ := lt_some hf
          refine g_iast X w_M_4 KD_119 hv2 hg_8 (w_M_4.2.2 _ _) dX11_day_121 (fun H locs w_M_5 => ?_)
          rw [← eM_5] at w_M_5
          refine lv_aload_n hx hb dX11_day_122 rfl (lv_at hl 0 rfl) ?_
          refine lv_dup hx hb dX11_day_123 rfl ?_
          refine g_geti X w_M_5 fg_X11_409 KD_80 FR_80_56 dX11_day_124 ?_
          refine g_iconst X dX11_day_127 ?_
          refine g_iadd X dX11_day_128 ?_
          obtain ⟨M_6, eM_6, hf⟩ := lt_some hf
          refine g_puti X w_M_5 fp_X11_409 KD_80 FR_80_56 (inR_wrap _) dX11_day_129 (fun H locs w_M_6 => ?_)
          rw [← eM_6] at w_M_6
          obtain ⟨v2_3, ev2_3, hf⟩ := lt_some hf
          have hv2_3 : inR v2_3 := inR_of ev2_3 (inR_wrap _)
          refine lv_iinc (v := i2 v2_3) (lv' := [(2, .int (i2 v2_3)), (0, .ref (ad 80)), (1, .int (i2 v1))]) hx hb dX11_day_132 hl (k := 2) rfl (by rw [ev2_3]; exact i2_add _ _) (by decide) rfl (fun ls hl => ?_)
          refine lv_goto (tgt := 32) hx hb dX11_day_135 (by decide) ?_
          exact HC v2_3 M_6 _ _ _ (Option.some.inj hf).symm hv2_3 (lv_sub hl [1, 2, 0] rfl) w_M_6
        · replace hf := ite_t cd_4 hf
          refine lv_goto (tgt := 132) hx hb dX11_day_69 (by decide) ?_
          obtain ⟨v2_4, ev2_4, hf⟩ := lt_some hf
          have hv2_4 : inR v2_4 := inR_of ev2_4 (inR_wrap _)
          refine lv_iinc (v := i2 v2_4) (lv' := [(2, .int (i2 v2_4)), (0, .ref (ad 80)), (1, .int (i2 v1))]) hx hb dX11_day_132 hl (k := 2) rfl (by rw [ev2_4]; exact i2_add _ _) (by decide) rfl (fun ls hl => ?_)
          refine lv_goto (tgt := 32) hx hb dX11_day_135 (by decide) ?_
          exact HC v2_4 M _ _ _ (Option.some.inj hf).symm hv2_4 (lv_sub hl [1, 2, 0] rfl) w
set_option maxRecDepth 100000 in
set_option maxHeartbeats 4000000 in
theorem l_X11_day_32 (X : CX p s m args c cX11_day 3 RX11 D aC ad sg A H0) (v1 : Int) (hv1 : inR v1) {out : Int × Mem} (HE : ∀ (y2 : Int) (M1 : Mem) (H : Heap) (locs : List Loc) (ls : Array Slot), out = (y2, M1) → inR y2 → lv_has ls 3 [(0, .ref (ad 80)), (1, .int (i2 v1)), (2, .int (i2 y2))] → WS D aC ad A H0 M1 H locs → W p l e rm_X11_day s m args below meth c H locs 0 0 Q (F0 m 138 ls [])) : ∀ (n : Nat) (v2 : Int) (M : Mem), whl (fun s => f_X11_day_s32 v1 s.1 s.2) n (v2, M) = some out → inR v2 → ∀ {H : Heap} {locs : List Loc} {ls : Array Slot}, lv_has ls 3 [(0, .ref (ad 80)), (1, .int (i2 v1)), (2, .int (i2 v2))] → WS D aC ad A H0 M H locs → W p l e rm_X11_day s m args below meth c H locs 0 0 Q (F0 m 32 ls []) := by
  intro n
  induction n with
  | zero => intro v2 M hf; exact (whl_zero hf).elim
  | succ n ih =>
    intro v2 M hf hv2 H locs ls hl w
    obtain ⟨o, hf, hk1, hk2⟩ := whl_step hf
    exact b_X11_day_s32 X v1 hv1 (fun y2 M1 H locs ls eo hy2 hl w => ih y2 M1 (hk1 _ eo) hy2 hl w) (fun y2 M1 H locs ls eo hy2 hl w => HE y2 M1 H locs ls (hk2 _ eo).symm hy2 hl w) v2 hv2 M hf hl w
set_option maxRecDepth 100000 in
set_option maxHeartbeats 4000000 in
theorem b_X11_day_j138 (X : CX p s m args c cX11_day 3 RX11 D aC ad sg A H0) {o : Int × Mem} (HR : ∀ (r : Int) (M1 : Mem) (H : Heap) (locs : List Loc) (pc : Nat) (ls : Array Slot), o = (r, M1) → inR r → WS D aC ad A H0 M1 H locs → decode cX11_day pc = .ok (.ireturn, 1) → W p l e rm_X11_day s m args below meth c H locs 0 0 Q (F0 m pc ls [.int (i2 r)])) (v1 : Int) (hv1 : inR v1) (M : Mem) (hf : f_X11_day_j138 v1 M = some o) {H : Heap} {locs : List Loc} {ls : Array Slot} (hl : lv_has ls 3 [(0, .ref (ad 80)), (1, .int (i2 v1))]) (w : WS D aC ad A H0 M H locs) : W p l e rm_X11_day s m args below meth c H locs 0 0 Q (F0 m 138 ls []) := by
  have hx := X.1.1
  have hb := X.1.2.1
  unfold f_X11_day_j138 at hf
  refine lv_aload_n hx hb dX11_day_138 rfl (lv_at hl 0 rfl) ?_
  refine lv_dup hx hb dX11_day_139 rfl ?_
  refine g_geti X w fg_X11_153 KD_80 FR_80_14 dX11_day_140 ?_
  refine lv_iload_n hx hb dX11_day_143 rfl (lv_at hl 1 rfl) ?_
  refine g_iadd X dX11_day_144 ?_
  obtain ⟨M_2, eM_2, hf⟩ := lt_some hf
  refine g_puti X w fp_X11_153 KD_80 FR_80_14 (inR_wrap _) dX11_day_145 (fun H locs w_M_2 => ?_)
  rw [← eM_2] at w_M_2
  refine lv_aload_n hx hb dX11_day_148 rfl (lv_at hl 0 rfl) ?_
  refine g_geti X w_M_2 fg_X11_153 KD_80 FR_80_14 dX11_day_149 ?_
  exact HR (M_2 80 14) M_2 _ _ _ _ (Option.some.inj hf).symm (w_M_2.2.2 _ _) w_M_2 dX11_day_152
set_option maxRecDepth 100000 in
set_option maxHeartbeats 4000000 in
theorem b_X11_day_0 (X : CX p s m args c cX11_day 3 RX11 D aC ad sg A H0) {o : Int × Mem} (HR : ∀ (r : Int) (M1 : Mem) (H : Heap) (locs : List Loc) (pc : Nat) (ls : Array Slot), o = (r, M1) → inR r → WS D aC ad A H0 M1 H locs → decode cX11_day pc = .ok (.ireturn, 1) → W p l e rm_X11_day s m args below meth c H locs 0 0 Q (F0 m pc ls [.int (i2 r)])) (p1 : Int) (hp1 : inR p1) (M : Mem) (hf : f_X11_day p1 M = some o) {H : Heap} {locs : List Loc} {ls : Array Slot} (hl : lv_has ls 3 [(0, .ref (ad 80)), (1, .int (i2 p1))]) (w : WS D aC ad A H0 M H locs) : W p l e rm_X11_day s m args below meth c H locs 0 0 Q (F0 m 0 ls []) := by
  have hx := X.1.1
  have hb := X.1.2.1
  unfold f_X11_day at hf
  refine lv_aload_n hx hb dX11_day_0 rfl (lv_at hl 0 rfl) ?_
  refine g_iconst X dX11_day_1 ?_
  obtain ⟨M_2, eM_2, hf⟩ := lt_some hf
  refine g_puti X w fp_X11_139 KD_80 FR_80_0 (inL rfl) dX11_day_2 (fun H locs w_M_2 => ?_)
  rw [← eM_2] at w_M_2
  refine lv_iload_n hx hb dX11_day_5 rfl (lv_at hl 1 rfl) ?_
  refine g_iconst X dX11_day_6 ?_
  refine g_sipush X dX11_day_7 (by decide) ?_
  obtain ⟨r, hc, hf⟩ := obn_some hf
  refine g_csi (As := [.int (i2 p1), .int (i2 0), .int (i2 1000)]) (rest := []) X w_M_2 (k_X11_within X.2.2.1 p1 hp1 0 (inL rfl) 1000 (inL rfl) w_M_2.2.2 hc) lk_X11_145 ⟨rfl, rfl⟩ ⟨nle rfl, nle rfl⟩ ⟨nle rfl, nle rfl⟩ hl.1 rfl (nle rfl) dX11_day_10 (fun hr H locs w_M_2 => ?_)
  refine g_if_eq (tgt := 28) X hr dX11_day_13 (by decide) (fun cd => ?_) (fun cd => ?_)
  · replace hf := ite_t cd hf
    refine g_iconst X dX11_day_28 ?_
    exact HR (-1) M_2 _ _ _ _ (Option.some.inj hf).symm (inL rfl) w_M_2 dX11_day_29
  · replace hf := ite_f cd hf
    refine lv_aload_n hx hb dX11_day_16 rfl (lv_at hl 0 rfl) ?_
    refine g_geti X w_M_2 fg_X11_153 KD_80 FR_80_14 dX11_day_17 ?_
    refine lv_iload_n hx hb dX11_day_20 rfl (lv_at hl 1 rfl) ?_
    refine g_iadd X dX11_day_21 ?_
    refine g_ldcw X kc_X11_408 dX11_day_22 ?_
    refine g_icmp_le (tgt := 30) X (inR_wrap _) (inL rfl) dX11_day_25 (by decide) (fun cd_2 => ?_) (fun cd_2 => ?_)
    · replace hf := ite_t cd_2 hf
      refine g_iconst X dX11_day_30 ?_
      refine g_istn (v := 0) (lv' := [(2, .int (i2 0)), (0, .ref (ad 80)), (1, .int (i2 p1))]) X rfl dX11_day_31 rfl hl (by decide) rfl (fun ls hl => ?_)
      obtain ⟨q, hq, h1⟩ := obn_some hf
      exact l_X11_day_32 X p1 hp1 (out := q) (fun y2 M1 H locs ls eq hy2 hl w => b_X11_day_j138 X  HR p1 hp1 M1 (by subst eq; exact h1) (lv_sub hl [0, 1] rfl) w)  FU 0 M_2 hq (inL rfl) (lv_sub hl [1, 2, 0] rfl) w_M_2
    · replace hf := ite_f cd_2 hf
      refine g_iconst X dX11_day_28 ?_
      exact HR (-1) M_2 _ _ _ _ (Option.some.inj hf).symm (inL rfl) w_M_2 dX11_day_29
set_option maxRecDepth 100000 in
set_option maxHeartbeats 4000000 in
theorem k_X11_day {l : Launch} {D : va_G} {aC : Nat → ClassId} {ad : Nat → Nat} {sg : SG} (hi : Inj ad) (p1 : Int) (hp1 : inR p1) {M : Mem} (hM : inM M) {r : Int} {M' : Mem} (hf : f_X11_day p1 M = some (r, M')) : MetI l D aC ad sg yX11_day cX11_day 3 (some .int) rm_X11_day 0 0 [.ref (ad 80), .int (i2 p1)] M r M' := by
  refine MetI.ofI (by decide +kernel) (nle rfl) hi hM (fun p e s m args below meth c Q H0 ls X hl w hret => ?_)
  exact b_X11_day_0 X  (fun r1 M1 H locs pc ls eo hP w dg => by cases eo; exact hret H locs pc ls hP w dg) p1 hp1 M hf hl w
set_option maxRecDepth 100000 in
set_option maxHeartbeats 4000000 in
theorem b_X11_cameBy_s4 (X : CX p s m args c cX11_cameBy 4 RX11 D aC ad sg A H0) (v1 : Int) (hv1 : inR v1) {M : Mem} {o : (Int × Int) ⊕ (Int × Int)} (HC : ∀ (y2 : Int) (y3 : Int) (H : Heap) (locs : List Loc) (ls : Array Slot), o = .inl (y2, y3) → inR y2 → inR y3 → lv_has ls 4 [(0, .ref (ad 80)), (1, .int (i2 v1)), (2, .int (i2 y2)), (3, .int (i2 y3))] → WS D aC ad A H0 M H locs → W p l e rm_X11_cameBy s m args below meth c H locs 0 0 Q (F0 m 4 ls [])) (HE : ∀ (y2 : Int) (y3 : Int) (H : Heap) (locs : List Loc) (ls : Array Slot), o = .inr (y2, y3) → inR y2 → inR y3 → lv_has ls 4 [(0, .ref (ad 80)), (1, .int (i2 v1)), (2, .int (i2 y2)), (3, .int (i2 y3))] → WS D aC ad A H0 M H locs → W p l e rm_X11_cameBy s m args below meth c H locs 0 0 Q (F0 m 36 ls [])) (v2 : Int) (hv2 : inR v2) (v3 : Int) (hv3 : inR v3) (hf : f_X11_cameBy_s4 v1 M v2 v3 = some o) {H : Heap} {locs : List Loc} {ls : Array Slot} (hl : lv_has ls 4 [(0, .ref (ad 80)), (1, .int (i2 v1)), (2, .int (i2 v2)), (3, .int (i2 v3))]) (w : WS D aC ad A H0 M H locs) : W p l e rm_X11_cameBy s m args below meth c H locs 0 0 Q (F0 m 4 ls []) := by
  have hx := X.1.1
  have hb := X.1.2.1
  unfold f_X11_cameBy_s4 at hf
  refine lv_iload_n hx hb dX11_cameBy_4 rfl (lv_at hl 3 rfl) ?_
  refine lv_aload_n hx hb dX11_cameBy_5 rfl (lv_at hl 0 rfl) ?_
  refine g_geti X w fg_X11_142 KD_80 FR_80_1 dX11_cameBy_6 ?_
  refine g_icmp_ge (tgt := 36) X hv3 (w.2.2 _ _) dX11_cameBy_9 (by decide) (fun cd => ?_) (fun cd => ?_)
  · replace hf := ite_t cd hf
    exact HE v2 v3 _ _ _ (Option.some.inj hf).symm hv2 hv3 hl w
  · replace hf := ite_f cd hf
    refine lv_iload_n hx hb dX11_cameBy_12 rfl (lv_at hl 2 rfl) ?_
    refine lv_aload_n hx hb dX11_cameBy_13 rfl (lv_at hl 0 rfl) ?_
    refine g_getr X w fg_X11_19 KD_80 FR_80_5 dX11_cameBy_14 ?_
    refine lv_iload_n hx hb dX11_cameBy_17 rfl (lv_at hl 3 rfl) ?_
    obtain ⟨hg, hf⟩ := gd_some hf
    refine g_iald X w KD_84 hv3 hg dX11_cameBy_18 ?_
    refine lv_iload_n hx hb dX11_cameBy_19 rfl (lv_at hl 1 rfl) ?_
    refine g_icmp_gt (tgt := 27) X (w.2.2 _ _) hv1 dX11_cameBy_20 (by decide) (fun cd_2 => ?_) (fun cd_2 => ?_)
    · replace hf := ite_t cd_2 hf
      refine g_iconst X dX11_cameBy_27 ?_
      refine g_iadd X dX11_cameBy_28 ?_
      obtain ⟨v2_2, ev2_2, hf⟩ := lt_some hf
      have hv2_2 : inR v2_2 := inR_of ev2_2 (inR_wrap _)
      refine g_istn (v := v2_2) (lv' := [(2, .int (i2 v2_2)), (0, .ref (ad 80)), (1, .int (i2 v1)), (3, .int (i2 v3))]) X ev2_2 dX11_cameBy_29 rfl hl (by decide) rfl (fun ls hl => ?_)
      obtain ⟨v3_2, ev3_2, hf⟩ := lt_some hf
      have hv3_2 : inR v3_2 := inR_of ev3_2 (inR_wrap _)
      refine lv_iinc (v := i2 v3_2) (lv' := [(3, .int (i2 v3_2)), (2, .int (i2 v2_2)), (0, .ref (ad 80)), (1, .int (i2 v1))]) hx hb dX11_cameBy_30 hl (k := 3) rfl (by rw [ev3_2]; exact i2_add _ _) (by decide) rfl (fun ls hl => ?_)
      refine lv_goto (tgt := 4) hx hb dX11_cameBy_33 (by decide) ?_
      exact HC v2_2 v3_2 _ _ _ (Option.some.inj hf).symm hv2_2 hv3_2 (lv_sub hl [2, 3, 1, 0] rfl) w
    · replace hf := ite_f cd_2 hf
      refine g_iconst X dX11_cameBy_23 ?_
      refine lv_goto (tgt := 28) hx hb dX11_cameBy_24 (by decide) ?_
      refine g_iadd X dX11_cameBy_28 ?_
      obtain ⟨v2_3, ev2_3, hf⟩ := lt_some hf
      have hv2_3 : inR v2_3 := inR_of ev2_3 (inR_wrap _)
      refine g_istn (v := v2_3) (lv' := [(2, .int (i2 v2_3)), (0, .ref (ad 80)), (1, .int (i2 v1)), (3, .int (i2 v3))]) X ev2_3 dX11_cameBy_29 rfl hl (by decide) rfl (fun ls hl => ?_)
      obtain ⟨v3_3, ev3_3, hf⟩ := lt_some hf
      have hv3_3 : inR v3_3 := inR_of ev3_3 (inR_wrap _)
      refine lv_iinc (v := i2 v3_3) (lv' := [(3, .int (i2 v3_3)), (2, .int (i2 v2_3)), (0, .ref (ad 80)), (1, .int (i2 v1))]) hx hb dX11_cameBy_30 hl (k := 3) rfl (by rw [ev3_3]; exact i2_add _ _) (by decide) rfl (fun ls hl => ?_)
      refine lv_goto (tgt := 4) hx hb dX11_cameBy_33 (by decide) ?_
      exact HC v2_3 v3_3 _ _ _ (Option.some.inj hf).symm hv2_3 hv3_3 (lv_sub hl [2, 3, 1, 0] rfl) w
set_option maxRecDepth 100000 in
set_option maxHeartbeats 4000000 in
theorem l_X11_cameBy_4 (X : CX p s m args c cX11_cameBy 4 RX11 D aC ad sg A H0) (v1 : Int) (hv1 : inR v1) {M : Mem} {out : Int × Int} (HE : ∀ (y2 : Int) (y3 : Int) (H : Heap) (locs : List Loc) (ls : Array Slot), out = (y2, y3) → inR y2 → inR y3 → lv_has ls 4 [(0, .ref (ad 80)), (1, .int (i2 v1)), (2, .int (i2 y2)), (3, .int (i2 y3))] → WS D aC ad A H0 M H locs → W p l e rm_X11_cameBy s m args below meth c H locs 0 0 Q (F0 m 36 ls [])) : ∀ (n : Nat) (v2 : Int) (v3 : Int), whl (fun s => f_X11_cameBy_s4 v1 M s.1 s.2) n (v2, v3) = some out → inR v2 → inR v3 → ∀ {H : Heap} {locs : List Loc} {ls : Array Slot}, lv_has ls 4 [(0, .ref (ad 80)), (1, .int (i2 v1)), (2, .int (i2 v2)), (3, .int (i2 v3))] → WS D aC ad A H0 M H locs → W p l e rm_X11_cameBy s m args below meth c H locs 0 0 Q (F0 m 4 ls []) := by
  intro n
  induction n with
  | zero => intro v2 v3 hf; exact (whl_zero hf).elim
  | succ n ih =>
    intro v2 v3 hf hv2 hv3 H locs ls hl w
    obtain ⟨o, hf, hk1, hk2⟩ := whl_step hf
    exact b_X11_cameBy_s4 X v1 hv1 (fun y2 y3 H locs ls eo hy2 hy3 hl w => ih y2 y3 (hk1 _ eo) hy2 hy3 hl w) (fun y2 y3 H locs ls eo hy2 hy3 hl w => HE y2 y3 H locs ls (hk2 _ eo).symm hy2 hy3 hl w) v2 hv2 v3 hv3 hf hl w
set_option maxRecDepth 100000 in
set_option maxHeartbeats 4000000 in
theorem b_X11_cameBy_j36 (X : CX p s m args c cX11_cameBy 4 RX11 D aC ad sg A H0) {M : Mem} {o : Int} (HR : ∀ (r : Int) (H : Heap) (locs : List Loc) (pc : Nat) (ls : Array Slot), o = r → inR r → WS D aC ad A H0 M H locs → decode cX11_cameBy pc = .ok (.ireturn, 1) → W p l e rm_X11_cameBy s m args below meth c H locs 0 0 Q (F0 m pc ls [.int (i2 r)])) (v2 : Int) (hv2 : inR v2) (hf : f_X11_cameBy_j36 v2 M = some o) {H : Heap} {locs : List Loc} {ls : Array Slot} (hl : lv_has ls 4 [(2, .int (i2 v2))]) (w : WS D aC ad A H0 M H locs) : W p l e rm_X11_cameBy s m args below meth c H locs 0 0 Q (F0 m 36 ls []) := by
  have hx := X.1.1
  have hb := X.1.2.1
  unfold f_X11_cameBy_j36 at hf
  refine lv_iload_n hx hb dX11_cameBy_36 rfl (lv_at hl 0 rfl) ?_
  exact HR v2 _ _ _ _ (Option.some.inj hf).symm hv2 w dX11_cameBy_37
set_option maxRecDepth 100000 in
set_option maxHeartbeats 4000000 in
theorem b_X11_cameBy_0 (X : CX p s m args c cX11_cameBy 4 RX11 D aC ad sg A H0) {M : Mem} {o : Int} (HR : ∀ (r : Int) (H : Heap) (locs : List Loc) (pc : Nat) (ls : Array Slot), o = r → inR r → WS D aC ad A H0 M H locs → decode cX11_cameBy pc = .ok (.ireturn, 1) → W p l e rm_X11_cameBy s m args below meth c H locs 0 0 Q (F0 m pc ls [.int (i2 r)])) (p1 : Int) (hp1 : inR p1) (hf : f_X11_cameBy p1 M = some o) {H : Heap} {locs : List Loc} {ls : Array Slot} (hl : lv_has ls 4 [(0, .ref (ad 80)), (1, .int (i2 p1))]) (w : WS D aC ad A H0 M H locs) : W p l e rm_X11_cameBy s m args below meth c H locs 0 0 Q (F0 m 0 ls []) := by
  have hx := X.1.1
  have hb := X.1.2.1
  unfold f_X11_cameBy at hf
  refine g_iconst X dX11_cameBy_0 ?_
  refine g_istn (v := 0) (lv' := [(2, .int (i2 0)), (0, .ref (ad 80)), (1, .int (i2 p1))]) X rfl dX11_cameBy_1 rfl hl (by decide) rfl (fun ls hl => ?_)
  refine g_iconst X dX11_cameBy_2 ?_
  refine g_istn (v := 0) (lv' := [(3, .int (i2 0)), (2, .int (i2 0)), (0, .ref (ad 80)), (1, .int (i2 p1))]) X rfl dX11_cameBy_3 rfl hl (by decide) rfl (fun ls hl => ?_)
  obtain ⟨q, hq, h1⟩ := obn_some hf
  exact l_X11_cameBy_4 X p1 hp1 (out := q) (fun y2 y3 H locs ls eq hy2 hy3 hl w => b_X11_cameBy_j36 X  HR y2 hy2 (by subst eq; exact h1) (lv_sub hl [2] rfl) w)  FU 0 0 hq (inL rfl) (inL rfl) (lv_sub hl [2, 3, 1, 0] rfl) w
set_option maxRecDepth 100000 in
set_option maxHeartbeats 4000000 in
theorem k_X11_cameBy {l : Launch} {D : va_G} {aC : Nat → ClassId} {ad : Nat → Nat} {sg : SG} (hi : Inj ad) (p1 : Int) (hp1 : inR p1) {M : Mem} (hM : inM M) {r : Int} (hf : f_X11_cameBy p1 M = some r) : MetI l D aC ad sg yX11_cameBy cX11_cameBy 4 (some .int) rm_X11_cameBy 0 0 [.ref (ad 80), .int (i2 p1)] M r M := by
  refine MetI.ofI (by decide +kernel) (nle rfl) hi hM (fun p e s m args below meth c Q H0 ls X hl w hret => ?_)
  exact b_X11_cameBy_0 X  (fun r1 H locs pc ls eo hP w dg => by cases eo; exact hret H locs pc ls hP w dg) p1 hp1 hf hl w
set_option maxRecDepth 100000 in
set_option maxHeartbeats 4000000 in
theorem b_X11_inClass_s4 (X : CX p s m args c cX11_inClass 4 RX11 D aC ad sg A H0) (v1 : Int) (hv1 : inR v1) {M : Mem} {o : (Int × Int) ⊕ (Int × Int)} (HC : ∀ (y2 : Int) (y3 : Int) (H : Heap) (locs : List Loc) (ls : Array Slot), o = .inl (y2, y3) → inR y2 → inR y3 → lv_has ls 4 [(0, .ref (ad 80)), (1, .int (i2 v1)), (2, .int (i2 y2)), (3, .int (i2 y3))] → WS D aC ad A H0 M H locs → W p l e rm_X11_inClass s m args below meth c H locs 0 0 Q (F0 m 4 ls [])) (HE : ∀ (y2 : Int) (y3 : Int) (H : Heap) (locs : List Loc) (ls : Array Slot), o = .inr (y2, y3) → inR y2 → inR y3 → lv_has ls 4 [(0, .ref (ad 80)), (1, .int (i2 v1)), (2, .int (i2 y2)), (3, .int (i2 y3))] → WS D aC ad A H0 M H locs → W p l e rm_X11_inClass s m args below meth c H locs 0 0 Q (F0 m 36 ls [])) (v2 : Int) (hv2 : inR v2) (v3 : Int) (hv3 : inR v3) (hf : f_X11_inClass_s4 v1 M v2 v3 = some o) {H : Heap} {locs : List Loc} {ls : Array Slot} (hl : lv_has ls 4 [(0, .ref (ad 80)), (1, .int (i2 v1)), (2, .int (i2 v2)), (3, .int (i2 v3))]) (w : WS D aC ad A H0 M H locs) : W p l e rm_X11_inClass s m args below meth c H locs 0 0 Q (F0 m 4 ls []) := by
  have hx := X.1.1
  have hb := X.1.2.1
  unfold f_X11_inClass_s4 at hf
  refine lv_iload_n hx hb dX11_inClass_4 rfl (lv_at hl 3 rfl) ?_
  refine lv_aload_n hx hb dX11_inClass_5 rfl (lv_at hl 0 rfl) ?_
  refine g_geti X w fg_X11_142 KD_80 FR_80_1 dX11_inClass_6 ?_
  refine g_icmp_ge (tgt := 36) X hv3 (w.2.2 _ _) dX11_inClass_9 (by decide) (fun cd => ?_) (fun cd => ?_)
  · replace hf := ite_t cd hf
    exact HE v2 v3 _ _ _ (Option.some.inj hf).symm hv2 hv3 hl w
  · replace hf := ite_f cd hf
    refine lv_iload_n hx hb dX11_inClass_12 rfl (lv_at hl 2 rfl) ?_
    refine lv_aload_n hx hb dX11_inClass_13 rfl (lv_at hl 0 rfl) ?_
    refine g_getr X w fg_X11_100 KD_80 FR_80_41 dX11_inClass_14 ?_
    refine lv_iload_n hx hb dX11_inClass_17 rfl (lv_at hl 3 rfl) ?_
    obtain ⟨hg, hf⟩ := gd_some hf
    refine g_iald X w KD_108 hv3 hg dX11_inClass_18 ?_
    refine lv_iload_n hx hb dX11_inClass_19 rfl (lv_at hl 1 rfl) ?_
    refine g_icmp_ne (tgt := 27) X (w.2.2 _ _) hv1 dX11_inClass_20 (by decide) (fun cd_2 => ?_) (fun cd_2 => ?_)
    · replace hf := ite_f cd_2 hf
      refine g_iconst X dX11_inClass_27 ?_
      refine g_iadd X dX11_inClass_28 ?_
      obtain ⟨v2_2, ev2_2, hf⟩ := lt_some hf
      have hv2_2 : inR v2_2 := inR_of ev2_2 (inR_wrap _)
      refine g_istn (v := v2_2) (lv' := [(2, .int (i2 v2_2)), (0, .ref (ad 80)), (1, .int (i2 v1)), (3, .int (i2 v3))]) X ev2_2 dX11_inClass_29 rfl hl (by decide) rfl (fun ls hl => ?_)
      obtain ⟨v3_2, ev3_2, hf⟩ := lt_some hf
      have hv3_2 : inR v3_2 := inR_of ev3_2 (inR_wrap _)
      refine lv_iinc (v := i2 v3_2) (lv' := [(3, .int (i2 v3_2)), (2, .int (i2 v2_2)), (0, .ref (ad 80)), (1, .int (i2 v1))]) hx hb dX11_inClass_30 hl (k := 3) rfl (by rw [ev3_2]; exact i2_add _ _) (by decide) rfl (fun ls hl => ?_)
      refine lv_goto (tgt := 4) hx hb dX11_inClass_33 (by decide) ?_
      exact HC v2_2 v3_2 _ _ _ (Option.some.inj hf).symm hv2_2 hv3_2 (lv_sub hl [2, 3, 1, 0] rfl) w
    · replace hf := ite_t cd_2 hf
      refine g_iconst X dX11_inClass_23 ?_
      refine lv_goto (tgt := 28) hx hb dX11_inClass_24 (by decide) ?_
      refine g_iadd X dX11_inClass_28 ?_
      obtain ⟨v2_3, ev2_3, hf⟩ := lt_some hf
      have hv2_3 : inR v2_3 := inR_of ev2_3 (inR_wrap _)
      refine g_istn (v := v2_3) (lv' := [(2, .int (i2 v2_3)), (0, .ref (ad 80)), (1, .int (i2 v1)), (3, .int (i2 v3))]) X ev2_3 dX11_inClass_29 rfl hl (by decide) rfl (fun ls hl => ?_)
      obtain ⟨v3_3, ev3_3, hf⟩ := lt_some hf
      have hv3_3 : inR v3_3 := inR_of ev3_3 (inR_wrap _)
      refine lv_iinc (v := i2 v3_3) (lv' := [(3, .int (i2 v3_3)), (2, .int (i2 v2_3)), (0, .ref (ad 80)), (1, .int (i2 v1))]) hx hb dX11_inClass_30 hl (k := 3) rfl (by rw [ev3_3]; exact i2_add _ _) (by decide) rfl (fun ls hl => ?_)
      refine lv_goto (tgt := 4) hx hb dX11_inClass_33 (by decide) ?_
      exact HC v2_3 v3_3 _ _ _ (Option.some.inj hf).symm hv2_3 hv3_3 (lv_sub hl [2, 3, 1, 0] rfl) w
set_option maxRecDepth 100000 in
set_option maxHeartbeats 4000000 in
theorem l_X11_inClass_4 (X : CX p s m args c cX11_inClass 4 RX11 D aC ad sg A H0) (v1 : Int) (hv1 : inR v1) {M : Mem} {out : Int × Int} (HE : ∀ (y2 : Int) (y3 : Int) (H : Heap) (locs : List Loc) (ls : Array Slot), out = (y2, y3) → inR y2 → inR y3 → lv_has ls 4 [(0, .ref (ad 80)), (1, .int (i2 v1)), (2, .int (i2 y2)), (3, .int (i2 y3))] → WS D aC ad A H0 M H locs → W p l e rm_X11_inClass s m args below meth c H locs 0 0 Q (F0 m 36 ls [])) : ∀ (n : Nat) (v2 : Int) (v3 : Int), whl (fun s => f_X11_inClass_s4 v1 M s.1 s.2) n (v2, v3) = some out → inR v2 → inR v3 → ∀ {H : Heap} {locs : List Loc} {ls : Array Slot}, lv_has ls 4 [(0, .ref (ad 80)), (1, .int (i2 v1)), (2, .int (i2 v2)), (3, .int (i2 v3))] → WS D aC ad A H0 M H locs → W p l e rm_X11_inClass s m args below meth c H locs 0 0 Q (F0 m 4 ls []) := by
  intro n
  induction n with
  | zero => intro v2 v3 hf; exact (whl_zero hf).elim
  | succ n ih =>
    intro v2 v3 hf hv2 hv3 H locs ls hl w
    obtain ⟨o, hf, hk1, hk2⟩ := whl_step hf
    exact b_X11_inClass_s4 X v1 hv1 (fun y2 y3 H locs ls eo hy2 hy3 hl w => ih y2 y3 (hk1 _ eo) hy2 hy3 hl w) (fun y2 y3 H locs ls eo hy2 hy3 hl w => HE y2 y3 H locs ls (hk2 _ eo).symm hy2 hy3 hl w) v2 hv2 v3 hv3 hf hl w
set_option maxRecDepth 100000 in
set_option maxHeartbeats 4000000 in
theorem b_X11_inClass_j36 (X : CX p s m args c cX11_inClass 4 RX11 D aC ad sg A H0) {M : Mem} {o : Int} (HR : ∀ (r : Int) (H : Heap) (locs : List Loc) (pc : Nat) (ls : Array Slot), o = r → inR r → WS D aC ad A H0 M H locs → decode cX11_inClass pc = .ok (.ireturn, 1) → W p l e rm_X11_inClass s m args below meth c H locs 0 0 Q (F0 m pc ls [.int (i2 r)])) (v2 : Int) (hv2 : inR v2) (hf : f_X11_inClass_j36 v2 M = some o) {H : Heap} {locs : List Loc} {ls : Array Slot} (hl : lv_has ls 4 [(2, .int (i2 v2))]) (w : WS D aC ad A H0 M H locs) : W p l e rm_X11_inClass s m args below meth c H locs 0 0 Q (F0 m 36 ls []) := by
  have hx := X.1.1
  have hb := X.1.2.1
  unfold f_X11_inClass_j36 at hf
  refine lv_iload_n hx hb dX11_inClass_36 rfl (lv_at hl 0 rfl) ?_
  exact HR v2 _ _ _ _ (Option.some.inj hf).symm hv2 w dX11_inClass_37
set_option maxRecDepth 100000 in
set_option maxHeartbeats 4000000 in
theorem b_X11_inClass_0 (X : CX p s m args c cX11_inClass 4 RX11 D aC ad sg A H0) {M : Mem} {o : Int} (HR : ∀ (r : Int) (H : Heap) (locs : List Loc) (pc : Nat) (ls : Array Slot), o = r → inR r → WS D aC ad A H0 M H locs → decode cX11_inClass pc = .ok (.ireturn, 1) → W p l e rm_X11_inClass s m args below meth c H locs 0 0 Q (F0 m pc ls [.int (i2 r)])) (p1 : Int) (hp1 : inR p1) (hf : f_X11_inClass p1 M = some o) {H : Heap} {locs : List Loc} {ls : Array Slot} (hl : lv_has ls 4 [(0, .ref (ad 80)), (1, .int (i2 p1))]) (w : WS D aC ad A H0 M H locs) : W p l e rm_X11_inClass s m args below meth c H locs 0 0 Q (F0 m 0 ls []) := by
  have hx := X.1.1
  have hb := X.1.2.1
  unfold f_X11_inClass at hf
  refine g_iconst X dX11_inClass_0 ?_
  refine g_istn (v := 0) (lv' := [(2, .int (i2 0)), (0, .ref (ad 80)), (1, .int (i2 p1))]) X rfl dX11_inClass_1 rfl hl (by decide) rfl (fun ls hl => ?_)
  refine g_iconst X dX11_inClass_2 ?_
  refine g_istn (v := 0) (lv' := [(3, .int (i2 0)), (2, .int (i2 0)), (0, .ref (ad 80)), (1, .int (i2 p1))]) X rfl dX11_inClass_3 rfl hl (by decide) rfl (fun ls hl => ?_)
  obtain ⟨q, hq, h1⟩ := obn_some hf
  exact l_X11_inClass_4 X p1 hp1 (out := q) (fun y2 y3 H locs ls eq hy2 hy3 hl w => b_X11_inClass_j36 X  HR y2 hy2 (by subst eq; exact h1) (lv_sub hl [2] rfl) w)  FU 0 0 hq (inL rfl) (inL rfl) (lv_sub hl [2, 3, 1, 0] rfl) w
set_option maxRecDepth 100000 in
set_option maxHeartbeats 4000000 in
theorem k_X11_inClass {l : Launch} {D : va_G} {aC : Nat → ClassId} {ad : Nat → Nat} {sg : SG} (hi : Inj ad) (p1 : Int) (hp1 : inR p1) {M : Mem} (hM : inM M) {r : Int} (hf : f_X11_inClass p1 M = some r) : MetI l D aC ad sg yX11_inClass cX11_inClass 4 (some .int) rm_X11_inClass 0 0 [.ref (ad 80), .int (i2 p1)] M r M := by
  refine MetI.ofI (by decide +kernel) (nle rfl) hi hM (fun p e s m args below meth c Q H0 ls X hl w hret => ?_)
  exact b_X11_inClass_0 X  (fun r1 H locs pc ls eo hP w dg => by cases eo; exact hret H locs pc ls hP w dg) p1 hp1 hf hl w
set_option maxRecDepth 100000 in
set_option maxHeartbeats 4000000 in
theorem b_X11_holdIn_s5 (X : CX p s m args c cX11_holdIn 5 RX11 D aC ad sg A H0) (v1 : Int) (hv1 : inR v1) (v2 : Int) (hv2 : inR v2) {M : Mem} {o : (Int × Int) ⊕ (Int × Int)} (HC : ∀ (y3 : Int) (y4 : Int) (H : Heap) (locs : List Loc) (ls : Array Slot), o = .inl (y3, y4) → inR y3 → inR y4 → lv_has ls 5 [(0, .ref (ad 80)), (1, .int (i2 v1)), (2, .int (i2 v2)), (3, .int (i2 y3)), (4, .int (i2 y4))] → WS D aC ad A H0 M H locs → W p l e rm_X11_holdIn s m args below meth c H locs 0 0 Q (F0 m 5 ls [])) (HE : ∀ (y3 : Int) (y4 : Int) (H : Heap) (locs : List Loc) (ls : Array Slot), o = .inr (y3, y4) → inR y3 → inR y4 → lv_has ls 5 [(0, .ref (ad 80)), (1, .int (i2 v1)), (2, .int (i2 v2)), (3, .int (i2 y3)), (4, .int (i2 y4))] → WS D aC ad A H0 M H locs → W p l e rm_X11_holdIn s m args below meth c H locs 0 0 Q (F0 m 54 ls [])) (v3 : Int) (hv3 : inR v3) (v4 : Int) (hv4 : inR v4) (hf : f_X11_holdIn_s5 v1 v2 M v3 v4 = some o) {H : Heap} {locs : List Loc} {ls : Array Slot} (hl : lv_has ls 5 [(0, .ref (ad 80)), (1, .int (i2 v1)), (2, .int (i2 v2)), (3, .int (i2 v3)), (4, .int (i2 v4))]) (w : WS D aC ad A H0 M H locs) : W p l e rm_X11_holdIn s m args below meth c H locs 0 0 Q (F0 m 5 ls []) := by
  have hx := X.1.1
  have hb := X.1.2.1
  unfold f_X11_holdIn_s5 at hf
  refine lv_iload hx hb dX11_holdIn_5 (lv_at hl 4 rfl) ?_
  refine lv_aload_n hx hb dX11_holdIn_7 rfl (lv_at hl 0 rfl) ?_
  refine g_geti X w fg_X11_142 KD_80 FR_80_1 dX11_holdIn_8 ?_
  refine g_icmp_ge (tgt := 54) X hv4 (w.2.2 _ _) dX11_holdIn_11 (by decide) (fun cd => ?_) (fun cd => ?_)
  · replace hf := ite_t cd hf
    exact HE v3 v4 _ _ _ (Option.some.inj hf).symm hv3 hv4 hl w
  · replace hf := ite_f cd hf
    refine lv_iload_n hx hb dX11_holdIn_14 rfl (lv_at hl 3 rfl) ?_
    refine lv_aload_n hx hb dX11_holdIn_15 rfl (lv_at hl 0 rfl) ?_
    refine g_getr X w fg_X11_100 KD_80 FR_80_41 dX11_holdIn_16 ?_
    refine lv_iload hx hb dX11_holdIn_19 (lv_at hl 4 rfl) ?_
    obtain ⟨hg, hf⟩ := gd_some hf
    refine g_iald X w KD_108 hv4 hg dX11_holdIn_21 ?_
    refine lv_iload_n hx hb dX11_holdIn_22 rfl (lv_at hl 2 rfl) ?_
    refine g_icmp_ne (tgt := 45) X (w.2.2 _ _) hv2 dX11_holdIn_23 (by decide) (fun cd_2 => ?_) (fun cd_2 => ?_)
    · replace hf := ite_f cd_2 hf
      refine g_iconst X dX11_holdIn_45 ?_
      refine g_iadd X dX11_holdIn_46 ?_
      obtain ⟨v3_2, ev3_2, hf⟩ := lt_some hf
      have hv3_2 : inR v3_2 := inR_of ev3_2 (inR_wrap _)
      refine g_istn (v := v3_2) (lv' := [(3, .int (i2 v3_2)), (0, .ref (ad 80)), (1, .int (i2 v1)), (2, .int (i2 v2)), (4, .int (i2 v4))]) X ev3_2 dX11_holdIn_47 rfl hl (by decide) rfl (fun ls hl => ?_)
      obtain ⟨v4_2, ev4_2, hf⟩ := lt_some hf
      have hv4_2 : inR v4_2 := inR_of ev4_2 (inR_wrap _)
      refine lv_iinc (v := i2 v4_2) (lv' := [(4, .int (i2 v4_2)), (3, .int (i2 v3_2)), (0, .ref (ad 80)), (1, .int (i2 v1)), (2, .int (i2 v2))]) hx hb dX11_holdIn_48 hl (k := 4) rfl (by rw [ev4_2]; exact i2_add _ _) (by decide) rfl (fun ls hl => ?_)
      refine lv_goto (tgt := 5) hx hb dX11_holdIn_51 (by decide) ?_
      exact HC v3_2 v4_2 _ _ _ (Option.some.inj hf).symm hv3_2 hv4_2 (lv_sub hl [2, 3, 4, 1, 0] rfl) w
    · replace hf := ite_t cd_2 hf
      refine lv_aload_n hx hb dX11_holdIn_26 rfl (lv_at hl 0 rfl) ?_
      refine g_getr X w fg_X11_97 KD_80 FR_80_40 dX11_holdIn_27 ?_
      refine g_bipush X dX11_holdIn_30 (by decide) ?_
      refine lv_iload_n hx hb dX11_holdIn_32 rfl (lv_at hl 1 rfl) ?_
      refine g_imul X dX11_holdIn_33 ?_
      refine lv_iload hx hb dX11_holdIn_34 (lv_at hl 4 rfl) ?_
      refine g_iadd X dX11_holdIn_36 ?_
      obtain ⟨hg_2, hf⟩ := gd_some hf
      refine g_zald X w KD_107 (inR_wrap _) hg_2 dX11_holdIn_37 ?_
      refine g_if_eq (tgt := 45) X (w.2.2 _ _) dX11_holdIn_38 (by decide) (fun cd_3 => ?_) (fun cd_3 => ?_)
      · replace hf := ite_t cd_3 hf
        refine g_iconst X dX11_holdIn_45 ?_
        refine g_iadd X dX11_holdIn_46 ?_
        obtain ⟨v3_3, ev3_3, hf⟩ := lt_some hf
        have hv3_3 : inR v3_3 := inR_of ev3_3 (inR_wrap _)
        refine g_istn (v := v3_3) (lv' := [(3, .int (i2 v3_3)), (0, .ref (ad 80)), (1, .int (i2 v1)), (2, .int (i2 v2)), (4, .int (i2 v4))]) X ev3_3 dX11_holdIn_47 rfl hl (by decide) rfl (fun ls hl => ?_)
        obtain ⟨v4_3, ev4_3, hf⟩ := lt_some hf
        have hv4_3 : inR v4_3 := inR_of ev4_3 (inR_wrap _)
        refine lv_iinc (v := i2 v4_3) (lv' := [(4, .int (i2 v4_3)), (3, .int (i2 v3_3)), (0, .ref (ad 80)), (1, .int (i2 v1)), (2, .int (i2 v2))]) hx hb dX11_holdIn_48 hl (k := 4) rfl (by rw [ev4_3]; exact i2_add _ _) (by decide) rfl (fun ls hl => ?_)
        refine lv_goto (tgt := 5) hx hb dX11_holdIn_51 (by decide) ?_
        exact HC v3_3 v4_3 _ _ _ (Option.some.inj hf).symm hv3_3 hv4_3 (lv_sub hl [2, 3, 4, 1, 0] rfl) w
      · replace hf := ite_f cd_3 hf
        refine g_iconst X dX11_holdIn_41 ?_
        refine lv_goto (tgt := 46) hx hb dX11_holdIn_42 (by decide) ?_
        refine g_iadd X dX11_holdIn_46 ?_
        obtain ⟨v3_4, ev3_4, hf⟩ := lt_some hf
        have hv3_4 : inR v3_4 := inR_of ev3_4 (inR_wrap _)
        refine g_istn (v := v3_4) (lv' := [(3, .int (i2 v3_4)), (0, .ref (ad 80)), (1, .int (i2 v1)), (2, .int (i2 v2)), (4, .int (i2 v4))]) X ev3_4 dX11_holdIn_47 rfl hl (by decide) rfl (fun ls hl => ?_)
        obtain ⟨v4_4, ev4_4, hf⟩ := lt_some hf
        have hv4_4 : inR v4_4 := inR_of ev4_4 (inR_wrap _)
        refine lv_iinc (v := i2 v4_4) (lv' := [(4, .int (i2 v4_4)), (3, .int (i2 v3_4)), (0, .ref (ad 80)), (1, .int (i2 v1)), (2, .int (i2 v2))]) hx hb dX11_holdIn_48 hl (k := 4) rfl (by rw [ev4_4]; exact i2_add _ _) (by decide) rfl (fun ls hl => ?_)
        refine lv_goto (tgt := 5) hx hb dX11_holdIn_51 (by decide) ?_
        exact HC v3_4 v4_4 _ _ _ (Option.some.inj hf).symm hv3_4 hv4_4 (lv_sub hl [2, 3, 4, 1, 0] rfl) w
set_option maxRecDepth 100000 in
set_option maxHeartbeats 4000000 in
theorem l_X11_holdIn_5 (X : CX p s m args c cX11_holdIn 5 RX11 D aC ad sg A H0) (v1 : Int) (hv1 : inR v1) (v2 : Int) (hv2 : inR v2) {M : Mem} {out : Int × Int} (HE : ∀ (y3 : Int) (y4 : Int) (H : Heap) (locs : List Loc) (ls : Array Slot), out = (y3, y4) → inR y3 → inR y4 → lv_has ls 5 [(0, .ref (ad 80)), (1, .int (i2 v1)), (2, .int (i2 v2)), (3, .int (i2 y3)), (4, .int (i2 y4))] → WS D aC ad A H0 M H locs → W p l e rm_X11_holdIn s m args below meth c H locs 0 0 Q (F0 m 54 ls [])) : ∀ (n : Nat) (v3 : Int) (v4 : Int), whl (fun s => f_X11_holdIn_s5 v1 v2 M s.1 s.2) n (v3, v4) = some out → inR v3 → inR v4 → ∀ {H : Heap} {locs : List Loc} {ls : Array Slot}, lv_has ls 5 [(0, .ref (ad 80)), (1, .int (i2 v1)), (2, .int (i2 v2)), (3, .int (i2 v3)), (4, .int (i2 v4))] → WS D aC ad A H0 M H locs → W p l e rm_X11_holdIn s m args below meth c H locs 0 0 Q (F0 m 5 ls []) := by
  intro n
  induction n with
  | zero => intro v3 v4 hf; exact (whl_zero hf).elim
  | succ n ih =>
    intro v3 v4 hf hv3 hv4 H locs ls hl w
    obtain ⟨o, hf, hk1, hk2⟩ := whl_step hf
    exact b_X11_holdIn_s5 X v1 hv1 v2 hv2 (fun y3 y4 H locs ls eo hy3 hy4 hl w => ih y3 y4 (hk1 _ eo) hy3 hy4 hl w) (fun y3 y4 H locs ls eo hy3 hy4 hl w => HE y3 y4 H locs ls (hk2 _ eo).symm hy3 hy4 hl w) v3 hv3 v4 hv4 hf hl w
set_option maxRecDepth 100000 in
set_option maxHeartbeats 4000000 in
theorem b_X11_holdIn_j54 (X : CX p s m args c cX11_holdIn 5 RX11 D aC ad sg A H0) {M : Mem} {o : Int} (HR : ∀ (r : Int) (H : Heap) (locs : List Loc) (pc : Nat) (ls : Array Slot), o = r → inR r → WS D aC ad A H0 M H locs → decode cX11_holdIn pc = .ok (.ireturn, 1) → W p l e rm_X11_holdIn s m args below meth c H locs 0 0 Q (F0 m pc ls [.int (i2 r)])) (v3 : Int) (hv3 : inR v3) (hf : f_X11_holdIn_j54 v3 M = some o) {H : Heap} {locs : List Loc} {ls : Array Slot} (hl : lv_has ls 5 [(3, .int (i2 v3))]) (w : WS D aC ad A H0 M H locs) : W p l e rm_X11_holdIn s m args below meth c H locs 0 0 Q (F0 m 54 ls []) := by
  have hx := X.1.1
  have hb := X.1.2.1
  unfold f_X11_holdIn_j54 at hf
  refine lv_iload_n hx hb dX11_holdIn_54 rfl (lv_at hl 0 rfl) ?_
  exact HR v3 _ _ _ _ (Option.some.inj hf).symm hv3 w dX11_holdIn_55
set_option maxRecDepth 100000 in
set_option maxHeartbeats 4000000 in
theorem b_X11_holdIn_0 (X : CX p s m args c cX11_holdIn 5 RX11 D aC ad sg A H0) {M : Mem} {o : Int} (HR : ∀ (r : Int) (H : Heap) (locs : List Loc) (pc : Nat) (ls : Array Slot), o = r → inR r → WS D aC ad A H0 M H locs → decode cX11_holdIn pc = .ok (.ireturn, 1) → W p l e rm_X11_holdIn s m args below meth c H locs 0 0 Q (F0 m pc ls [.int (i2 r)])) (p1 : Int) (hp1 : inR p1) (p2 : Int) (hp2 : inR p2) (hf : f_X11_holdIn p1 p2 M = some o) {H : Heap} {locs : List Loc} {ls : Array Slot} (hl : lv_has ls 5 [(0, .ref (ad 80)), (1, .int (i2 p1)), (2, .int (i2 p2))]) (w : WS D aC ad A H0 M H locs) : W p l e rm_X11_holdIn s m args below meth c H locs 0 0 Q (F0 m 0 ls []) := by
  have hx := X.1.1
  have hb := X.1.2.1
  unfold f_X11_holdIn at hf
  refine g_iconst X dX11_holdIn_0 ?_
  refine g_istn (v := 0) (lv' := [(3, .int (i2 0)), (0, .ref (ad 80)), (1, .int (i2 p1)), (2, .int (i2 p2))]) X rfl dX11_holdIn_1 rfl hl (by decide) rfl (fun ls hl => ?_)
  refine g_iconst X dX11_holdIn_2 ?_
  refine g_ist (v := 0) (lv' := [(4, .int (i2 0)), (3, .int (i2 0)), (0, .ref (ad 80)), (1, .int (i2 p1)), (2, .int (i2 p2))]) X rfl dX11_holdIn_3 hl (by decide) rfl (fun ls hl => ?_)
  obtain ⟨q, hq, h1⟩ := obn_some hf
  exact l_X11_holdIn_5 X p1 hp1 p2 hp2 (out := q) (fun y3 y4 H locs ls eq hy3 hy4 hl w => b_X11_holdIn_j54 X  HR y3 hy3 (by subst eq; exact h1) (lv_sub hl [3] rfl) w)  FU 0 0 hq (inL rfl) (inL rfl) (lv_sub hl [2, 3, 4, 1, 0] rfl) w
set_option maxRecDepth 100000 in
set_option maxHeartbeats 4000000 in
theorem k_X11_holdIn {l : Launch} {D : va_G} {aC : Nat → ClassId} {ad : Nat → Nat} {sg : SG} (hi : Inj ad) (p1 : Int) (hp1 : inR p1) (p2 : Int) (hp2 : inR p2) {M : Mem} (hM : inM M) {r : Int} (hf : f_X11_holdIn p1 p2 M = some r) : MetI l D aC ad sg yX11_holdIn cX11_holdIn 5 (some .int) rm_X11_holdIn 0 0 [.ref (ad 80), .int (i2 p1), .int (i2 p2)] M r M := by
  refine MetI.ofI (by decide +kernel) (nle rfl) hi hM (fun p e s m args below meth c Q H0 ls X hl w hret => ?_)
  exact b_X11_holdIn_0 X  (fun r1 H locs pc ls eo hP w dg => by cases eo; exact hret H locs pc ls hP w dg) p1 hp1 p2 hp2 hf hl w
set_option maxRecDepth 100000 in
set_option maxHeartbeats 4000000 in
theorem b_X11_isMet_s95 (X : CX p s m args c cX11_isMet 4 RX11 D aC ad sg A H0) (v1 : Int) (hv1 : inR v1) (v2 : Int) (hv2 : inR v2) {M : Mem} {o : (Int) ⊕ ((Int) ⊕ (Int))} (HC : ∀ (y3 : Int) (H : Heap) (locs : List Loc) (ls : Array Slot), o = .inl y3 → inR y3 → lv_has ls 4 [(0, .ref (ad 80)), (1, .int (i2 v1)), (2, .int (i2 v2)), (3, .int (i2 y3))] → WS D aC ad A H0 M H locs → W p l e rm_X11_isMet s m args below meth c H locs 0 0 Q (F0 m 95 ls [])) (HE : ∀ (y3 : Int) (H : Heap) (locs : List Loc) (ls : Array Slot), o = .inr (.inl y3) → inR y3 → lv_has ls 4 [(0, .ref (ad 80)), (1, .int (i2 v1)), (2, .int (i2 v2)), (3, .int (i2 y3))] → WS D aC ad A H0 M H locs → W p l e rm_X11_isMet s m args below meth c H locs 0 0 Q (F0 m 149 ls [])) (HR : ∀ (r : Int) (H : Heap) (locs : List Loc) (pc : Nat) (ls : Array Slot), o = .inr (.inr r) → isZ r → WS D aC ad A H0 M H locs → decode cX11_isMet pc = .ok (.ireturn, 1) → W p l e rm_X11_isMet s m args below meth c H locs 0 0 Q (F0 m pc ls [.int (i2 r)])) (v3 : Int) (hv3 : inR v3) (hf : f_X11_isMet_s95 v1 v2 M v3 = some o) {H : Heap} {locs : List Loc} {ls : Array Slot} (hl : lv_has ls 4 [(0, .ref (ad 80)), (1, .int (i2 v1)), (2, .int (i2 v2)), (3, .int (i2 v3))]) (w : WS D aC ad A H0 M H locs) : W p l e rm_X11_isMet s m args below meth c H locs 0 0 Q (F0 m 95 ls []) := by
  have hx := X.1.1
  have hb := X.1.2.1
  unfold f_X11_isMet_s95 at hf
  refine lv_iload_n hx hb dX11_isMet_95 rfl (lv_at hl 3 rfl) ?_
  refine lv_aload_n hx hb dX11_isMet_96 rfl (lv_at hl 0 rfl) ?_
  refine g_geti X w fg_X11_142 KD_80 FR_80_1 dX11_isMet_97 ?_
  refine g_icmp_ge (tgt := 149) X hv3 (w.2.2 _ _) dX11_isMet_100 (by decide) (fun cd => ?_) (fun cd => ?_)
  · replace hf := ite_t cd hf
    exact HE v3 _ _ _ (Option.some.inj hf).symm hv3 hl w
  · replace hf := ite_f cd hf
    refine lv_iload_n hx hb dX11_isMet_103 rfl (lv_at hl 3 rfl) ?_
    refine lv_iload_n hx hb dX11_isMet_104 rfl (lv_at hl 2 rfl) ?_
    refine g_icmp_eq (tgt := 143) X hv3 hv2 dX11_isMet_105 (by decide) (fun cd_2 => ?_) (fun cd_2 => ?_)
    · replace hf := ite_t cd_2 hf
      obtain ⟨v3_2, ev3_2, hf⟩ := lt_some hf
      have hv3_2 : inR v3_2 := inR_of ev3_2 (inR_wrap _)
      refine lv_iinc (v := i2 v3_2) (lv' := [(3, .int (i2 v3_2)), (0, .ref (ad 80)), (1, .int (i2 v1)), (2, .int (i2 v2))]) hx hb dX11_isMet_143 hl (k := 3) rfl (by rw [ev3_2]; exact i2_add _ _) (by decide) rfl (fun ls hl => ?_)
      refine lv_goto (tgt := 95) hx hb dX11_isMet_146 (by decide) ?_
      exact HC v3_2 _ _ _ (Option.some.inj hf).symm hv3_2 (lv_sub hl [1, 2, 3, 0] rfl) w
    · replace hf := ite_f cd_2 hf
      refine lv_aload_n hx hb dX11_isMet_108 rfl (lv_at hl 0 rfl) ?_
      refine g_getr X w fg_X11_100 KD_80 FR_80_41 dX11_isMet_109 ?_
      refine lv_iload_n hx hb dX11_isMet_112 rfl (lv_at hl 3 rfl) ?_
      obtain ⟨hg, hf⟩ := gd_some hf
      refine g_iald X w KD_108 hv3 hg dX11_isMet_113 ?_
      refine lv_aload_n hx hb dX11_isMet_114 rfl (lv_at hl 0 rfl) ?_
      refine g_getr X w fg_X11_100 KD_80 FR_80_41 dX11_isMet_115 ?_
      refine lv_iload_n hx hb dX11_isMet_118 rfl (lv_at hl 2 rfl) ?_
      obtain ⟨hg_2, hf⟩ := gd_some hf
      refine g_iald X w KD_108 hv2 hg_2 dX11_isMet_119 ?_
      refine g_icmp_ne (tgt := 143) X (w.2.2 _ _) (w.2.2 _ _) dX11_isMet_120 (by decide) (fun cd_3 => ?_) (fun cd_3 => ?_)
      · replace hf := ite_f cd_3 hf
        obtain ⟨v3_3, ev3_3, hf⟩ := lt_some hf
        have hv3_3 : inR v3_3 := inR_of ev3_3 (inR_wrap _)
        refine lv_iinc (v := i2 v3_3) (lv' := [(3, .int (i2 v3_3)), (0, .ref (ad 80)), (1, .int (i2 v1)), (2, .int (i2 v2))]) hx hb dX11_isMet_143 hl (k := 3) rfl (by rw [ev3_3]; exact i2_add _ _) (by decide) rfl (fun ls hl => ?_)
        refine lv_goto (tgt := 95) hx hb dX11_isMet_146 (by decide) ?_
        exact HC v3_3 _ _ _ (Option.some.inj hf).symm hv3_3 (lv_sub hl [1, 2, 3, 0] rfl) w
      · replace hf := ite_t cd_3 hf
        refine lv_aload_n hx hb dX11_isMet_123 rfl (lv_at hl 0 rfl) ?_
        refine g_getr X w fg_X11_97 KD_80 FR_80_40 dX11_isMet_124 ?_
        refine g_bipush X dX11_isMet_127 (by decide) ?_
        refine g_iconst X dX11_isMet_129 ?_
        refine lv_iload_n hx hb dX11_isMet_130 rfl (lv_at hl 1 rfl) ?_
        refine g_imul X dX11_isMet_131 ?_
        refine g_iconst X dX11_isMet_132 ?_
        refine g_iadd X dX11_isMet_133 ?_
        refine g_imul X dX11_isMet_134 ?_
        refine lv_iload_n hx hb dX11_isMet_135 rfl (lv_at hl 3 rfl) ?_
        refine g_iadd X dX11_isMet_136 ?_
        obtain ⟨hg_3, hf⟩ := gd_some hf
        refine g_zald X w KD_107 (inR_wrap _) hg_3 dX11_isMet_137 ?_
        refine g_if_eq (tgt := 143) X (w.2.2 _ _) dX11_isMet_138 (by decide) (fun cd_4 => ?_) (fun cd_4 => ?_)
        · replace hf := ite_t cd_4 hf
          obtain ⟨v3_4, ev3_4, hf⟩ := lt_some hf
          have hv3_4 : inR v3_4 := inR_of ev3_4 (inR_wrap _)
          refine lv_iinc (v := i2 v3_4) (lv' := [(3, .int (i2 v3_4)), (0, .ref (ad 80)), (1, .int (i2 v1)), (2, .int (i2 v2))]) hx hb dX11_isMet_143 hl (k := 3) rfl (by rw [ev3_4]; exact i2_add _ _) (by decide) rfl (fun ls hl => ?_)
          refine lv_goto (tgt := 95) hx hb dX11_isMet_146 (by decide) ?_
          exact HC v3_4 _ _ _ (Option.some.inj hf).symm hv3_4 (lv_sub hl [1, 2, 3, 0] rfl) w
        · replace hf := ite_f cd_4 hf
          refine g_iconst X dX11_isMet_141 ?_
          exact HR 0 _ _ _ _ (Option.some.inj hf).symm (Or.inl rfl) w dX11_isMet_142
set_option maxRecDepth 100000 in
set_option maxHeartbeats 4000000 in
theorem l_X11_isMet_95 (X : CX p s m args c cX11_isMet 4 RX11 D aC ad sg A H0) (v1 : Int) (hv1 : inR v1) (v2 : Int) (hv2 : inR v2) {M : Mem} {out : (Int) ⊕ (Int)} (HE : ∀ (y3 : Int) (H : Heap) (locs : List Loc) (ls : Array Slot), out = .inl y3 → inR y3 → lv_has ls 4 [(0, .ref (ad 80)), (1, .int (i2 v1)), (2, .int (i2 v2)), (3, .int (i2 y3))] → WS D aC ad A H0 M H locs → W p l e rm_X11_isMet s m args below meth c H locs 0 0 Q (F0 m 149 ls [])) (HR : ∀ (r : Int) (H : Heap) (locs : List Loc) (pc : Nat) (ls : Array Slot), out = .inr r → isZ r → WS D aC ad A H0 M H locs → decode cX11_isMet pc = .ok (.ireturn, 1) → W p l e rm_X11_isMet s m args below meth c H locs 0 0 Q (F0 m pc ls [.int (i2 r)])) : ∀ (n : Nat) (v3 : Int), whl (fun s => f_X11_isMet_s95 v1 v2 M s) n v3 = some out → inR v3 → ∀ {H : Heap} {locs : List Loc} {ls : Array Slot}, lv_has ls 4 [(0, .ref (ad 80)), (1, .int (i2 v1)), (2, .int (i2 v2)), (3, .int (i2 v3))] → WS D aC ad A H0 M H locs → W p l e rm_X11_isMet s m args below meth c H locs 0 0 Q (F0 m 95 ls []) := by
  intro n
  induction n with
  | zero => intro v3 hf; exact (whl_zero hf).elim
  | succ n ih =>
    intro v3 hf hv3 H locs ls hl w
    obtain ⟨o, hf, hk1, hk2⟩ := whl_step hf
    exact b_X11_isMet_s95 X v1 hv1 v2 hv2 (fun y3 H locs ls eo hy3 hl w => ih y3 (hk1 _ eo) hy3 hl w) (fun y3 H locs ls eo hy3 hl w => HE y3 H locs ls (hk2 _ eo).symm hy3 hl w) (fun r H locs pc ls eo hP w dg => HR r H locs pc ls (hk2 _ eo).symm hP w dg) v3 hv3 hf hl w
set_option maxRecDepth 100000 in
set_option maxHeartbeats 4000000 in
theorem b_X11_isMet_j149k48 (X : CX p s m args c cX11_isMet 4 RX11 D aC ad sg A H0) (v1 : Int) (hv1 : inR v1) {M : Mem} {o : (Int) ⊕ ((Int) ⊕ (Int))} (HC : ∀ (y2 : Int) (H : Heap) (locs : List Loc) (ls : Array Slot), o = .inl y2 → inR y2 → lv_has ls 4 [(0, .ref (ad 80)), (1, .int (i2 v1)), (2, .int (i2 y2))] → WS D aC ad A H0 M H locs → W p l e rm_X11_isMet s m args below meth c H locs 0 0 Q (F0 m 48 ls [])) (HE : ∀ (y2 : Int) (H : Heap) (locs : List Loc) (ls : Array Slot), o = .inr (.inl y2) → inR y2 → lv_has ls 4 [(0, .ref (ad 80)), (1, .int (i2 v1)), (2, .int (i2 y2))] → WS D aC ad A H0 M H locs → W p l e rm_X11_isMet s m args below meth c H locs 0 0 Q (F0 m 155 ls [])) (HR : ∀ (r : Int) (H : Heap) (locs : List Loc) (pc : Nat) (ls : Array Slot), o = .inr (.inr r) → isZ r → WS D aC ad A H0 M H locs → decode cX11_isMet pc = .ok (.ireturn, 1) → W p l e rm_X11_isMet s m args below meth c H locs 0 0 Q (F0 m pc ls [.int (i2 r)])) (v2 : Int) (hv2 : inR v2) (hf : f_X11_isMet_j149k48 v1 v2 M = some o) {H : Heap} {locs : List Loc} {ls : Array Slot} (hl : lv_has ls 4 [(0, .ref (ad 80)), (1, .int (i2 v1)), (2, .int (i2 v2))]) (w : WS D aC ad A H0 M H locs) : W p l e rm_X11_isMet s m args below meth c H locs 0 0 Q (F0 m 149 ls []) := by
  have hx := X.1.1
  have hb := X.1.2.1
  unfold f_X11_isMet_j149k48 at hf
  obtain ⟨v2_2, ev2_2, hf⟩ := lt_some hf
  have hv2_2 : inR v2_2 := inR_of ev2_2 (inR_wrap _)
  refine lv_iinc (v := i2 v2_2) (lv' := [(2, .int (i2 v2_2)), (0, .ref (ad 80)), (1, .int (i2 v1))]) hx hb dX11_isMet_149 hl (k := 2) rfl (by rw [ev2_2]; exact i2_add _ _) (by decide) rfl (fun ls hl => ?_)
  refine lv_goto (tgt := 48) hx hb dX11_isMet_152 (by decide) ?_
  exact HC v2_2 _ _ _ (Option.some.inj hf).symm hv2_2 (lv_sub hl [1, 2, 0] rfl) w
set_option maxRecDepth 100000 in
set_option maxHeartbeats 4000000 in
theorem b_X11_isMet_s48 (X : CX p s m args c cX11_isMet 4 RX11 D aC ad sg A H0) (v1 : Int) (hv1 : inR v1) {M : Mem} {o : (Int) ⊕ ((Int) ⊕ (Int))} (HC : ∀ (y2 : Int) (H : Heap) (locs : List Loc) (ls : Array Slot), o = .inl y2 → inR y2 → lv_has ls 4 [(0, .ref (ad 80)), (1, .int (i2 v1)), (2, .int (i2 y2))] → WS D aC ad A H0 M H locs → W p l e rm_X11_isMet s m args below meth c H locs 0 0 Q (F0 m 48 ls [])) (HE : ∀ (y2 : Int) (H : Heap) (locs : List Loc) (ls : Array Slot), o = .inr (.inl y2) → inR y2 → lv_has ls 4 [(0, .ref (ad 80)), (1, .int (i2 v1)), (2, .int (i2 y2))] → WS D aC ad A H0 M H locs → W p l e rm_X11_isMet s m args below meth c H locs 0 0 Q (F0 m 155 ls [])) (HR : ∀ (r : Int) (H : Heap) (locs : List Loc) (pc : Nat) (ls : Array Slot), o = .inr (.inr r) → isZ r → WS D aC ad A H0 M H locs → decode cX11_isMet pc = .ok (.ireturn, 1) → W p l e rm_X11_isMet s m args below meth c H locs 0 0 Q (F0 m pc ls [.int (i2 r)])) (v2 : Int) (hv2 : inR v2) (hf : f_X11_isMet_s48 v1 M v2 = some o) {H : Heap} {locs : List Loc} {ls : Array Slot} (hl : lv_has ls 4 [(0, .ref (ad 80)), (1, .int (i2 v1)), (2, .int (i2 v2))]) (w : WS D aC ad A H0 M H locs) : W p l e rm_X11_isMet s m args below meth c H locs 0 0 Q (F0 m 48 ls []) := by
  have hx := X.1.1
  have hb := X.1.2.1
  unfold f_X11_isMet_s48 at hf
  refine lv_iload_n hx hb dX11_isMet_48 rfl (lv_at hl 2 rfl) ?_
  refine lv_aload_n hx hb dX11_isMet_49 rfl (lv_at hl 0 rfl) ?_
  refine g_geti X w fg_X11_142 KD_80 FR_80_1 dX11_isMet_50 ?_
  refine g_icmp_ge (tgt := 155) X hv2 (w.2.2 _ _) dX11_isMet_53 (by decide) (fun cd => ?_) (fun cd => ?_)
  · replace hf := ite_t cd hf
    exact HE v2 _ _ _ (Option.some.inj hf).symm hv2 hl w
  · replace hf := ite_f cd hf
    refine lv_aload_n hx hb dX11_isMet_56 rfl (lv_at hl 0 rfl) ?_
    refine g_getr X w fg_X11_63 KD_80 FR_80_23 dX11_isMet_57 ?_
    refine lv_iload_n hx hb dX11_isMet_60 rfl (lv_at hl 1 rfl) ?_
    obtain ⟨hg, hf⟩ := gd_some hf
    refine g_iald X w KD_97 hv1 hg dX11_isMet_61 ?_
    refine g_iconst X dX11_isMet_62 ?_
    refine g_icmp_ne (tgt := 155) X (w.2.2 _ _) (inL rfl) dX11_isMet_63 (by decide) (fun cd_2 => ?_) (fun cd_2 => ?_)
    · replace hf := ite_f cd_2 hf
      exact HE v2 _ _ _ (Option.some.inj hf).symm hv2 hl w
    · replace hf := ite_t cd_2 hf
      refine lv_aload_n hx hb dX11_isMet_66 rfl (lv_at hl 0 rfl) ?_
      refine g_getr X w fg_X11_100 KD_80 FR_80_41 dX11_isMet_67 ?_
      refine lv_iload_n hx hb dX11_isMet_70 rfl (lv_at hl 2 rfl) ?_
      obtain ⟨hg_2, hf⟩ := gd_some hf
      refine g_iald X w KD_108 hv2 hg_2 dX11_isMet_71 ?_
      refine g_iconst X dX11_isMet_72 ?_
      refine g_icmp_eq (tgt := 149) X (w.2.2 _ _) (inL rfl) dX11_isMet_73 (by decide) (fun cd_3 => ?_) (fun cd_3 => ?_)
      · replace hf := ite_t cd_3 hf
        obtain ⟨v2_2, ev2_2, hf⟩ := lt_some hf
        have hv2_2 : inR v2_2 := inR_of ev2_2 (inR_wrap _)
        refine lv_iinc (v := i2 v2_2) (lv' := [(2, .int (i2 v2_2)), (0, .ref (ad 80)), (1, .int (i2 v1))]) hx hb dX11_isMet_149 hl (k := 2) rfl (by rw [ev2_2]; exact i2_add _ _) (by decide) rfl (fun ls hl => ?_)
        refine lv_goto (tgt := 48) hx hb dX11_isMet_152 (by decide) ?_
        exact HC v2_2 _ _ _ (Option.some.inj hf).symm hv2_2 (lv_sub hl [1, 2, 0] rfl) w
      · replace hf := ite_f cd_3 hf
        refine lv_aload_n hx hb dX11_isMet_76 rfl (lv_at hl 0 rfl) ?_
        refine g_getr X w fg_X11_97 KD_80 FR_80_40 dX11_isMet_77 ?_
        refine g_bipush X dX11_isMet_80 (by decide) ?_
        refine lv_iload_n hx hb dX11_isMet_82 rfl (lv_at hl 1 rfl) ?_
        refine g_imul X dX11_isMet_83 ?_
        refine lv_iload_n hx hb dX11_isMet_84 rfl (lv_at hl 2 rfl) ?_
        refine g_iadd X dX11_isMet_85 ?_
        obtain ⟨hg_3, hf⟩ := gd_some hf
        refine g_zald X w KD_107 (inR_wrap _) hg_3 dX11_isMet_86 ?_
        refine g_if_ne (tgt := 93) X (w.2.2 _ _) dX11_isMet_87 (by decide) (fun cd_4 => ?_) (fun cd_4 => ?_)
        · replace hf := ite_f cd_4 hf
          refine g_iconst X dX11_isMet_93 ?_
          refine g_istn (v := 0) (lv' := [(3, .int (i2 0)), (0, .ref (ad 80)), (1, .int (i2 v1)), (2, .int (i2 v2))]) X rfl dX11_isMet_94 rfl hl (by decide) rfl (fun ls hl => ?_)
          obtain ⟨q, hq, h1, h2⟩ := lpr_some hf
          exact l_X11_isMet_95 X v1 hv1 v2 hv2 (out := q) (fun y3 H locs ls eq hy3 hl w => b_X11_isMet_j149k48 X v1 hv1 HC HE HR v2 hv2 (h1 _ eq) (lv_sub hl [0, 1, 2] rfl) w) (fun r H locs pc ls eq hP w dg => HR r H locs pc ls (Option.some.inj (h2 _ eq)).symm hP w dg) FU 0 hq (inL rfl) (lv_sub hl [1, 2, 3, 0] rfl) w
        · replace hf := ite_t cd_4 hf
          refine lv_goto (tgt := 149) hx hb dX11_isMet_90 (by decide) ?_
          obtain ⟨v2_3, ev2_3, hf⟩ := lt_some hf
          have hv2_3 : inR v2_3 := inR_of ev2_3 (inR_wrap _)
          refine lv_iinc (v := i2 v2_3) (lv' := [(2, .int (i2 v2_3)), (0, .ref (ad 80)), (1, .int (i2 v1))]) hx hb dX11_isMet_149 hl (k := 2) rfl (by rw [ev2_3]; exact i2_add _ _) (by decide) rfl (fun ls hl => ?_)
          refine lv_goto (tgt := 48) hx hb dX11_isMet_152 (by decide) ?_
          exact HC v2_3 _ _ _ (Option.some.inj hf).symm hv2_3 (lv_sub hl [1, 2, 0] rfl) w
set_option maxRecDepth 100000 in
set_option maxHeartbeats 4000000 in
theorem l_X11_isMet_48 (X : CX p s m args c cX11_isMet 4 RX11 D aC ad sg A H0) (v1 : Int) (hv1 : inR v1) {M : Mem} {out : (Int) ⊕ (Int)} (HE : ∀ (y2 : Int) (H : Heap) (locs : List Loc) (ls : Array Slot), out = .inl y2 → inR y2 → lv_has ls 4 [(0, .ref (ad 80)), (1, .int (i2 v1)), (2, .int (i2 y2))] → WS D aC ad A H0 M H locs → W p l e rm_X11_isMet s m args below meth c H locs 0 0 Q (F0 m 155 ls [])) (HR : ∀ (r : Int) (H : Heap) (locs : List Loc) (pc : Nat) (ls : Array Slot), out = .inr r → isZ r → WS D aC ad A H0 M H locs → decode cX11_isMet pc = .ok (.ireturn, 1) → W p l e rm_X11_isMet s m args below meth c H locs 0 0 Q (F0 m pc ls [.int (i2 r)])) : ∀ (n : Nat) (v2 : Int), whl (fun s => f_X11_isMet_s48 v1 M s) n v2 = some out → inR v2 → ∀ {H : Heap} {locs : List Loc} {ls : Array Slot}, lv_has ls 4 [(0, .ref (ad 80)), (1, .int (i2 v1)), (2, .int (i2 v2))] → WS D aC ad A H0 M H locs → W p l e rm_X11_isMet s m args below meth c H locs 0 0 Q (F0 m 48 ls []) := by
  intro n
  induction n with
  | zero => intro v2 hf; exact (whl_zero hf).elim
  | succ n ih =>
    intro v2 hf hv2 H locs ls hl w
    obtain ⟨o, hf, hk1, hk2⟩ := whl_step hf
    exact b_X11_isMet_s48 X v1 hv1 (fun y2 H locs ls eo hy2 hl w => ih y2 (hk1 _ eo) hy2 hl w) (fun y2 H locs ls eo hy2 hl w => HE y2 H locs ls (hk2 _ eo).symm hy2 hl w) (fun r H locs pc ls eo hP w dg => HR r H locs pc ls (hk2 _ eo).symm hP w dg) v2 hv2 hf hl w
set_option maxRecDepth 100000 in
set_option maxHeartbeats 4000000 in
theorem b_X11_isMet_j155 (X : CX p s m args c cX11_isMet 4 RX11 D aC ad sg A H0) {M : Mem} {o : Int} (HR : ∀ (r : Int) (H : Heap) (locs : List Loc) (pc : Nat) (ls : Array Slot), o = r → isZ r → WS D aC ad A H0 M H locs → decode cX11_isMet pc = .ok (.ireturn, 1) → W p l e rm_X11_isMet s m args below meth c H locs 0 0 Q (F0 m pc ls [.int (i2 r)])) (hf : f_X11_isMet_j155 M = some o) {H : Heap} {locs : List Loc} {ls : Array Slot} (hl : lv_has ls 4 []) (w : WS D aC ad A H0 M H locs) : W p l e rm_X11_isMet s m args below meth c H locs 0 0 Q (F0 m 155 ls []) := by
  have hx := X.1.1
  have hb := X.1.2.1
  unfold f_X11_isMet_j155 at hf
  refine g_iconst X dX11_isMet_155 ?_
  exact HR 1 _ _ _ _ (Option.some.inj hf).symm (Or.inr rfl) w dX11_isMet_156
set_option maxRecDepth 100000 in
set_option maxHeartbeats 4000000 in
theorem b_X11_isMet_s13 (X : CX p s m args c cX11_isMet 4 RX11 D aC ad sg A H0) (v1 : Int) (hv1 : inR v1) {M : Mem} {o : (Int) ⊕ ((Int) ⊕ (Int))} (HC : ∀ (y2 : Int) (H : Heap) (locs : List Loc) (ls : Array Slot), o = .inl y2 → inR y2 → lv_has ls 4 [(0, .ref (ad 80)), (1, .int (i2 v1)), (2, .int (i2 y2))] → WS D aC ad A H0 M H locs → W p l e rm_X11_isMet s m args below meth c H locs 0 0 Q (F0 m 13 ls [])) (HE : ∀ (y2 : Int) (H : Heap) (locs : List Loc) (ls : Array Slot), o = .inr (.inl y2) → inR y2 → lv_has ls 4 [(0, .ref (ad 80)), (1, .int (i2 v1)), (2, .int (i2 y2))] → WS D aC ad A H0 M H locs → W p l e rm_X11_isMet s m args below meth c H locs 0 0 Q (F0 m 46 ls [])) (HR : ∀ (r : Int) (H : Heap) (locs : List Loc) (pc : Nat) (ls : Array Slot), o = .inr (.inr r) → isZ r → WS D aC ad A H0 M H locs → decode cX11_isMet pc = .ok (.ireturn, 1) → W p l e rm_X11_isMet s m args below meth c H locs 0 0 Q (F0 m pc ls [.int (i2 r)])) (v2 : Int) (hv2 : inR v2) (hf : f_X11_isMet_s13 v1 M v2 = some o) {H : Heap} {locs : List Loc} {ls : Array Slot} (hl : lv_has ls 4 [(0, .ref (ad 80)), (1, .int (i2 v1)), (2, .int (i2 v2))]) (w : WS D aC ad A H0 M H locs) : W p l e rm_X11_isMet s m args below meth c H locs 0 0 Q (F0 m 13 ls []) := by
  have hx := X.1.1
  have hb := X.1.2.1
  unfold f_X11_isMet_s13 at hf
  refine lv_iload_n hx hb dX11_isMet_13 rfl (lv_at hl 2 rfl) ?_
  refine lv_aload_n hx hb dX11_isMet_14 rfl (lv_at hl 0 rfl) ?_
  refine g_geti X w fg_X11_41 KD_80 FR_80_12 dX11_isMet_15 ?_
  refine g_icmp_ge (tgt := 46) X hv2 (w.2.2 _ _) dX11_isMet_18 (by decide) (fun cd => ?_) (fun cd => ?_)
  · replace hf := ite_t cd hf
    exact HE v2 _ _ _ (Option.some.inj hf).symm hv2 hl w
  · replace hf := ite_f cd hf
    refine lv_aload_n hx hb dX11_isMet_21 rfl (lv_at hl 0 rfl) ?_
    refine g_iconst X dX11_isMet_22 ?_
    refine lv_iload_n hx hb dX11_isMet_23 rfl (lv_at hl 1 rfl) ?_
    refine g_imul X dX11_isMet_24 ?_
    refine lv_iload_n hx hb dX11_isMet_25 rfl (lv_at hl 2 rfl) ?_
    obtain ⟨r, hc, hf⟩ := obn_some hf
    refine g_cvi (As := [.int (i2 (wrap (2 * v1))), .int (i2 v2)]) (rest := []) X w (k_X11_holdIn X.2.2.1 (wrap (2 * v1)) (inR_wrap _) v2 hv2 w.2.2 hc) lk_X11_332 cl_11 KD_80 ⟨rfl, rfl⟩ ⟨nle rfl, nle rfl⟩ ⟨nle rfl, nle rfl⟩ hl.1 rfl (nle rfl) dX11_isMet_26 (fun hr H locs w => ?_)
    refine lv_aload_n hx hb dX11_isMet_29 rfl (lv_at hl 0 rfl) ?_
    refine g_getr X w fg_X11_66 KD_80 FR_80_24 dX11_isMet_30 ?_
    refine lv_iload_n hx hb dX11_isMet_33 rfl (lv_at hl 1 rfl) ?_
    obtain ⟨hg, hf⟩ := gd_some hf
    refine g_iald X w KD_98 hv1 hg dX11_isMet_34 ?_
    refine g_icmp_le (tgt := 40) X hr (w.2.2 _ _) dX11_isMet_35 (by decide) (fun cd_2 => ?_) (fun cd_2 => ?_)
    · replace hf := ite_t cd_2 hf
      obtain ⟨v2_2, ev2_2, hf⟩ := lt_some hf
      have hv2_2 : inR v2_2 := inR_of ev2_2 (inR_wrap _)
      refine lv_iinc (v := i2 v2_2) (lv' := [(2, .int (i2 v2_2)), (0, .ref (ad 80)), (1, .int (i2 v1))]) hx hb dX11_isMet_40 hl (k := 2) rfl (by rw [ev2_2]; exact i2_add _ _) (by decide) rfl (fun ls hl => ?_)
      refine lv_goto (tgt := 13) hx hb dX11_isMet_43 (by decide) ?_
      exact HC v2_2 _ _ _ (Option.some.inj hf).symm hv2_2 (lv_sub hl [1, 2, 0] rfl) w
    · replace hf := ite_f cd_2 hf
      refine g_iconst X dX11_isMet_38 ?_
      exact HR 0 _ _ _ _ (Option.some.inj hf).symm (Or.inl rfl) w dX11_isMet_39
set_option maxRecDepth 100000 in
set_option maxHeartbeats 4000000 in
theorem l_X11_isMet_13 (X : CX p s m args c cX11_isMet 4 RX11 D aC ad sg A H0) (v1 : Int) (hv1 : inR v1) {M : Mem} {out : (Int) ⊕ (Int)} (HE : ∀ (y2 : Int) (H : Heap) (locs : List Loc) (ls : Array Slot), out = .inl y2 → inR y2 → lv_has ls 4 [(0, .ref (ad 80)), (1, .int (i2 v1)), (2, .int (i2 y2))] → WS D aC ad A H0 M H locs → W p l e rm_X11_isMet s m args below meth c H locs 0 0 Q (F0 m 46 ls [])) (HR : ∀ (r : Int) (H : Heap) (locs : List Loc) (pc : Nat) (ls : Array Slot), out = .inr r → isZ r → WS D aC ad A H0 M H locs → decode cX11_isMet pc = .ok (.ireturn, 1) → W p l e rm_X11_isMet s m args below meth c H locs 0 0 Q (F0 m pc ls [.int (i2 r)])) : ∀ (n : Nat) (v2 : Int), whl (fun s => f_X11_isMet_s13 v1 M s) n v2 = some out → inR v2 → ∀ {H : Heap} {locs : List Loc} {ls : Array Slot}, lv_has ls 4 [(0, .ref (ad 80)), (1, .int (i2 v1)), (2, .int (i2 v2))] → WS D aC ad A H0 M H locs → W p l e rm_X11_isMet s m args below meth c H locs 0 0 Q (F0 m 13 ls []) := by
  intro n
  induction n with
  | zero => intro v2 hf; exact (whl_zero hf).elim
  | succ n ih =>
    intro v2 hf hv2 H locs ls hl w
    obtain ⟨o, hf, hk1, hk2⟩ := whl_step hf
    exact b_X11_isMet_s13 X v1 hv1 (fun y2 H locs ls eo hy2 hl w => ih y2 (hk1 _ eo) hy2 hl w) (fun y2 H locs ls eo hy2 hl w => HE y2 H locs ls (hk2 _ eo).symm hy2 hl w) (fun r H locs pc ls eo hP w dg => HR r H locs pc ls (hk2 _ eo).symm hP w dg) v2 hv2 hf hl w
set_option maxRecDepth 100000 in
set_option maxHeartbeats 4000000 in
theorem b_X11_isMet_j46 (X : CX p s m args c cX11_isMet 4 RX11 D aC ad sg A H0) {M : Mem} {o : Int} (HR : ∀ (r : Int) (H : Heap) (locs : List Loc) (pc : Nat) (ls : Array Slot), o = r → isZ r → WS D aC ad A H0 M H locs → decode cX11_isMet pc = .ok (.ireturn, 1) → W p l e rm_X11_isMet s m args below meth c H locs 0 0 Q (F0 m pc ls [.int (i2 r)])) (v1 : Int) (hv1 : inR v1) (hf : f_X11_isMet_j46 v1 M = some o) {H : Heap} {locs : List Loc} {ls : Array Slot} (hl : lv_has ls 4 [(0, .ref (ad 80)), (1, .int (i2 v1))]) (w : WS D aC ad A H0 M H locs) : W p l e rm_X11_isMet s m args below meth c H locs 0 0 Q (F0 m 46 ls []) := by
  have hx := X.1.1
  have hb := X.1.2.1
  unfold f_X11_isMet_j46 at hf
  refine g_iconst X dX11_isMet_46 ?_
  refine g_istn (v := 0) (lv' := [(2, .int (i2 0)), (0, .ref (ad 80)), (1, .int (i2 v1))]) X rfl dX11_isMet_47 rfl hl (by decide) rfl (fun ls hl => ?_)
  obtain ⟨q, hq, h1, h2⟩ := lpr_some hf
  exact l_X11_isMet_48 X v1 hv1 (out := q) (fun y2 H locs ls eq hy2 hl w => b_X11_isMet_j155 X  HR  (h1 _ eq) (lv_sub hl [] rfl) w) (fun r H locs pc ls eq hP w dg => HR r H locs pc ls (Option.some.inj (h2 _ eq)).symm hP w dg) FU 0 hq (inL rfl) (lv_sub hl [1, 2, 0] rfl) w
set_option maxRecDepth 100000 in
set_option maxHeartbeats 4000000 in
theorem b_X11_isMet_0 (X : CX p s m args c cX11_isMet 4 RX11 D aC ad sg A H0) {M : Mem} {o : Int} (HR : ∀ (r : Int) (H : Heap) (locs : List Loc) (pc : Nat) (ls : Array Slot), o = r → isZ r → WS D aC ad A H0 M H locs → decode cX11_isMet pc = .ok (.ireturn, 1) → W p l e rm_X11_isMet s m args below meth c H locs 0 0 Q (F0 m pc ls [.int (i2 r)])) (p1 : Int) (hp1 : inR p1) (hf : f_X11_isMet p1 M = some o) {H : Heap} {locs : List Loc} {ls : Array Slot} (hl : lv_has ls 4 [(0, .ref (ad 80)), (1, .int (i2 p1))]) (w : WS D aC ad A H0 M H locs) : W p l e rm_X11_isMet s m args below meth c H locs 0 0 Q (F0 m 0 ls []) := by
  have hx := X.1.1
  have hb := X.1.2.1
  unfold f_X11_isMet at hf
  refine lv_aload_n hx hb dX11_isMet_0 rfl (lv_at hl 0 rfl) ?_
  refine g_getr X w fg_X11_63 KD_80 FR_80_23 dX11_isMet_1 ?_
  refine lv_iload_n hx hb dX11_isMet_4 rfl (lv_at hl 1 rfl) ?_
  obtain ⟨hg, hf⟩ := gd_some hf
  refine g_iald X w KD_97 hp1 hg dX11_isMet_5 ?_
  refine g_bipush X dX11_isMet_6 (by decide) ?_
  refine g_icmp_ne (tgt := 46) X (w.2.2 _ _) (inL rfl) dX11_isMet_8 (by decide) (fun cd => ?_) (fun cd => ?_)
  · replace hf := ite_f cd hf
    refine g_iconst X dX11_isMet_46 ?_
    refine g_istn (v := 0) (lv' := [(2, .int (i2 0)), (0, .ref (ad 80)), (1, .int (i2 p1))]) X rfl dX11_isMet_47 rfl hl (by decide) rfl (fun ls hl => ?_)
    obtain ⟨q, hq, h1, h2⟩ := lpr_some hf
    exact l_X11_isMet_48 X p1 hp1 (out := q) (fun y2 H locs ls eq hy2 hl w => b_X11_isMet_j155 X  HR  (h1 _ eq) (lv_sub hl [] rfl) w) (fun r H locs pc ls eq hP w dg => HR r H locs pc ls (Option.some.inj (h2 _ eq)).symm hP w dg) FU 0 hq (inL rfl) (lv_sub hl [1, 2, 0] rfl) w
  · replace hf := ite_t cd hf
    refine g_iconst X dX11_isMet_11 ?_
    refine g_istn (v := 0) (lv' := [(2, .int (i2 0)), (0, .ref (ad 80)), (1, .int (i2 p1))]) X rfl dX11_isMet_12 rfl hl (by decide) rfl (fun ls hl => ?_)
    obtain ⟨q, hq, h1, h2⟩ := lpr_some hf
    exact l_X11_isMet_13 X p1 hp1 (out := q) (fun y2 H locs ls eq hy2 hl w => b_X11_isMet_j46 X  HR p1 hp1 (h1 _ eq) (lv_sub hl [0, 1] rfl) w) (fun r H locs pc ls eq hP w dg => HR r H locs pc ls (Option.some.inj (h2 _ eq)).symm hP w dg) FU 0 hq (inL rfl) (lv_sub hl [1, 2, 0] rfl) w
set_option maxRecDepth 100000 in
set_option maxHeartbeats 4000000 in
theorem k_X11_isMet {l : Launch} {D : va_G} {aC : Nat → ClassId} {ad : Nat → Nat} {sg : SG} (hi : Inj ad) (p1 : Int) (hp1 : inR p1) {M : Mem} (hM : inM M) {r : Int} (hf : f_X11_isMet p1 M = some r) : MetI l D aC ad sg yX11_isMet cX11_isMet 4 (some .boolean) rm_X11_isMet 0 0 [.ref (ad 80), .int (i2 p1)] M r M := by
  refine MetI.ofZ (by decide +kernel) (nle rfl) hi hM (fun p e s m args below meth c Q H0 ls X hl w hret => ?_)
  exact b_X11_isMet_0 X  (fun r1 H locs pc ls eo hP w dg => by cases eo; exact hret H locs pc ls hP w dg) p1 hp1 hf hl w
set_option maxRecDepth 100000 in
set_option maxHeartbeats 4000000 in
theorem b_X11_isSound_s4 (X : CX p s m args c cX11_isSound 5 RX11 D aC ad sg A H0) {M : Mem} {o : (Int × Int) ⊕ (Int × Int)} (HC : ∀ (y1 : Int) (y2 : Int) (H : Heap) (locs : List Loc) (ls : Array Slot), o = .inl (y1, y2) → inR y1 → inR y2 → lv_has ls 5 [(0, .ref (ad 80)), (1, .int (i2 y1)), (2, .int (i2 y2))] → WS D aC ad A H0 M H locs → W p l e rm_X11_isSound s m args below meth c H locs 0 0 Q (F0 m 4 ls [])) (HE : ∀ (y1 : Int) (y2 : Int) (H : Heap) (locs : List Loc) (ls : Array Slot), o = .inr (y1, y2) → inR y1 → inR y2 → lv_has ls 5 [(0, .ref (ad 80)), (1, .int (i2 y1)), (2, .int (i2 y2))] → WS D aC ad A H0 M H locs → W p l e rm_X11_isSound s m args below meth c H locs 0 0 Q (F0 m 40 ls [])) (v1 : Int) (hv1 : inR v1) (v2 : Int) (hv2 : inR v2) (hf : f_X11_isSound_s4 M v1 v2 = some o) {H : Heap} {locs : List Loc} {ls : Array Slot} (hl : lv_has ls 5 [(0, .ref (ad 80)), (1, .int (i2 v1)), (2, .int (i2 v2))]) (w : WS D aC ad A H0 M H locs) : W p l e rm_X11_isSound s m args below meth c H locs 0 0 Q (F0 m 4 ls []) := by
  have hx := X.1.1
  have hb := X.1.2.1
  unfold f_X11_isSound_s4 at hf
  refine lv_iload_n hx hb dX11_isSound_4 rfl (lv_at hl 2 rfl) ?_
  refine lv_aload_n hx hb dX11_isSound_5 rfl (lv_at hl 0 rfl) ?_
  refine g_geti X w fg_X11_307 KD_80 FR_80_21 dX11_isSound_6 ?_
  refine g_icmp_ge (tgt := 40) X hv2 (w.2.2 _ _) dX11_isSound_9 (by decide) (fun cd => ?_) (fun cd => ?_)
  · replace hf := ite_t cd hf
    exact HE v1 v2 _ _ _ (Option.some.inj hf).symm hv1 hv2 hl w
  · replace hf := ite_f cd hf
    refine lv_aload_n hx hb dX11_isSound_12 rfl (lv_at hl 0 rfl) ?_
    refine g_getr X w fg_X11_63 KD_80 FR_80_23 dX11_isSound_13 ?_
    refine lv_iload_n hx hb dX11_isSound_16 rfl (lv_at hl 2 rfl) ?_
    obtain ⟨hg, hf⟩ := gd_some hf
    refine g_iald X w KD_97 hv2 hg dX11_isSound_17 ?_
    refine g_bipush X dX11_isSound_18 (by decide) ?_
    refine g_icmp_ne (tgt := 32) X (w.2.2 _ _) (inL rfl) dX11_isSound_20 (by decide) (fun cd_2 => ?_) (fun cd_2 => ?_)
    · replace hf := ite_f cd_2 hf
      refine lv_iload_n hx hb dX11_isSound_32 rfl (lv_at hl 1 rfl) ?_
      refine g_istn (v := v1) (lv' := [(1, .int (i2 v1)), (0, .ref (ad 80)), (2, .int (i2 v2))]) X rfl dX11_isSound_33 rfl hl (by decide) rfl (fun ls hl => ?_)
      obtain ⟨v2_2, ev2_2, hf⟩ := lt_some hf
      have hv2_2 : inR v2_2 := inR_of ev2_2 (inR_wrap _)
      refine lv_iinc (v := i2 v2_2) (lv' := [(2, .int (i2 v2_2)), (1, .int (i2 v1)), (0, .ref (ad 80))]) hx hb dX11_isSound_34 hl (k := 2) rfl (by rw [ev2_2]; exact i2_add _ _) (by decide) rfl (fun ls hl => ?_)
      refine lv_goto (tgt := 4) hx hb dX11_isSound_37 (by decide) ?_
      exact HC v1 v2_2 _ _ _ (Option.some.inj hf).symm hv1 hv2_2 (lv_sub hl [2, 1, 0] rfl) w
    · replace hf := ite_t cd_2 hf
      refine lv_aload_n hx hb dX11_isSound_23 rfl (lv_at hl 0 rfl) ?_
      refine g_getr X w fg_X11_66 KD_80 FR_80_24 dX11_isSound_24 ?_
      refine lv_iload_n hx hb dX11_isSound_27 rfl (lv_at hl 2 rfl) ?_
      obtain ⟨hg_2, hf⟩ := gd_some hf
      refine g_iald X w KD_98 hv2 hg_2 dX11_isSound_28 ?_
      refine lv_goto (tgt := 33) hx hb dX11_isSound_29 (by decide) ?_
      obtain ⟨v1_2, ev1_2, hf⟩ := lt_some hf
      have hv1_2 : inR v1_2 := inR_of ev1_2 (w.2.2 _ _)
      refine g_istn (v := v1_2) (lv' := [(1, .int (i2 v1_2)), (0, .ref (ad 80)), (2, .int (i2 v2))]) X ev1_2 dX11_isSound_33 rfl hl (by decide) rfl (fun ls hl => ?_)
      obtain ⟨v2_3, ev2_3, hf⟩ := lt_some hf
      have hv2_3 : inR v2_3 := inR_of ev2_3 (inR_wrap _)
      refine lv_iinc (v := i2 v2_3) (lv' := [(2, .int (i2 v2_3)), (1, .int (i2 v1_2)), (0, .ref (ad 80))]) hx hb dX11_isSound_34 hl (k := 2) rfl (by rw [ev2_3]; exact i2_add _ _) (by decide) rfl (fun ls hl => ?_)
      refine lv_goto (tgt := 4) hx hb dX11_isSound_37 (by decide) ?_
      exact HC v1_2 v2_3 _ _ _ (Option.some.inj hf).symm hv1_2 hv2_3 (lv_sub hl [2, 1, 0] rfl) w
set_option maxRecDepth 100000 in
set_option maxHeartbeats 4000000 in
theorem l_X11_isSound_4 (X : CX p s m args c cX11_isSound 5 RX11 D aC ad sg A H0) {M : Mem} {out : Int × Int} (HE : ∀ (y1 : Int) (y2 : Int) (H : Heap) (locs : List Loc) (ls : Array Slot), out = (y1, y2) → inR y1 → inR y2 → lv_has ls 5 [(0, .ref (ad 80)), (1, .int (i2 y1)), (2, .int (i2 y2))] → WS D aC ad A H0 M H locs → W p l e rm_X11_isSound s m args below meth c H locs 0 0 Q (F0 m 40 ls [])) : ∀ (n : Nat) (v1 : Int) (v2 : Int), whl (fun s => f_X11_isSound_s4 M s.1 s.2) n (v1, v2) = some out → inR v1 → inR v2 → ∀ {H : Heap} {locs : List Loc} {ls : Array Slot}, lv_has ls 5 [(0, .ref (ad 80)), (1, .int (i2 v1)), (2, .int (i2 v2))] → WS D aC ad A H0 M H locs → W p l e rm_X11_isSound s m args below meth c H locs 0 0 Q (F0 m 4 ls []) := by
  intro n
  induction n with
  | zero => intro v1 v2 hf; exact (whl_zero hf).elim
  | succ n ih =>
    intro v1 v2 hf hv1 hv2 H locs ls hl w
    obtain ⟨o, hf, hk1, hk2⟩ := whl_step hf
    exact b_X11_isSound_s4 X  (fun y1 y2 H locs ls eo hy1 hy2 hl w => ih y1 y2 (hk1 _ eo) hy1 hy2 hl w) (fun y1 y2 H locs ls eo hy1 hy2 hl w => HE y1 y2 H locs ls (hk2 _ eo).symm hy1 hy2 hl w) v1 hv1 v2 hv2 hf hl w
set_option maxRecDepth 100000 in
set_option maxHeartbeats 4000000 in
theorem b_X11_isSound_s42 (X : CX p s m args c cX11_isSound 5 RX11 D aC ad sg A H0) (v1 : Int) (hv1 : inR v1) {M : Mem} {o : (Int) ⊕ ((Int) ⊕ (Int))} (HC : ∀ (y2 : Int) (H : Heap) (locs : List Loc) (ls : Array Slot), o = .inl y2 → inR y2 → lv_has ls 5 [(0, .ref (ad 80)), (1, .int (i2 v1)), (2, .int (i2 y2))] → WS D aC ad A H0 M H locs → W p l e rm_X11_isSound s m args below meth c H locs 0 0 Q (F0 m 42 ls [])) (HE : ∀ (y2 : Int) (H : Heap) (locs : List Loc) (ls : Array Slot), o = .inr (.inl y2) → inR y2 → lv_has ls 5 [(0, .ref (ad 80)), (1, .int (i2 v1)), (2, .int (i2 y2))] → WS D aC ad A H0 M H locs → W p l e rm_X11_isSound s m args below meth c H locs 0 0 Q (F0 m 72 ls [])) (HR : ∀ (r : Int) (H : Heap) (locs : List Loc) (pc : Nat) (ls : Array Slot), o = .inr (.inr r) → isZ r → WS D aC ad A H0 M H locs → decode cX11_isSound pc = .ok (.ireturn, 1) → W p l e rm_X11_isSound s m args below meth c H locs 0 0 Q (F0 m pc ls [.int (i2 r)])) (v2 : Int) (hv2 : inR v2) (hf : f_X11_isSound_s42 v1 M v2 = some o) {H : Heap} {locs : List Loc} {ls : Array Slot} (hl : lv_has ls 5 [(0, .ref (ad 80)), (1, .int (i2 v1)), (2, .int (i2 v2))]) (w : WS D aC ad A H0 M H locs) : W p l e rm_X11_isSound s m args below meth c H locs 0 0 Q (F0 m 42 ls []) := by
  have hx := X.1.1
  have hb := X.1.2.1
  unfold f_X11_isSound_s42 at hf
  refine lv_iload_n hx hb dX11_isSound_42 rfl (lv_at hl 2 rfl) ?_
  refine lv_aload_n hx hb dX11_isSound_43 rfl (lv_at hl 0 rfl) ?_
  refine g_geti X w fg_X11_41 KD_80 FR_80_12 dX11_isSound_44 ?_
  refine g_icmp_ge (tgt := 72) X hv2 (w.2.2 _ _) dX11_isSound_47 (by decide) (fun cd => ?_) (fun cd => ?_)
  · replace hf := ite_t cd hf
    exact HE v2 _ _ _ (Option.some.inj hf).symm hv2 hl w
  · replace hf := ite_f cd hf
    refine lv_aload_n hx hb dX11_isSound_50 rfl (lv_at hl 0 rfl) ?_
    refine lv_iload_n hx hb dX11_isSound_51 rfl (lv_at hl 2 rfl) ?_
    obtain ⟨r, hc, hf⟩ := obn_some hf
    refine g_cvi (As := [.int (i2 v2)]) (rest := []) X w (k_X11_inClass X.2.2.1 v2 hv2 w.2.2 hc) lk_X11_326 cl_11 KD_80 ⟨rfl, rfl⟩ ⟨nle rfl, nle rfl⟩ ⟨nle rfl, nle rfl⟩ hl.1 rfl (nle rfl) dX11_isSound_52 (fun hr H locs w => ?_)
    refine lv_aload_n hx hb dX11_isSound_55 rfl (lv_at hl 0 rfl) ?_
    refine g_getr X w fg_X11_45 KD_80 FR_80_13 dX11_isSound_56 ?_
    refine lv_iload_n hx hb dX11_isSound_59 rfl (lv_at hl 2 rfl) ?_
    obtain ⟨hg, hf⟩ := gd_some hf
    refine g_iald X w KD_91 hv2 hg dX11_isSound_60 ?_
    refine g_icmp_le (tgt := 66) X hr (w.2.2 _ _) dX11_isSound_61 (by decide) (fun cd_2 => ?_) (fun cd_2 => ?_)
    · replace hf := ite_t cd_2 hf
      obtain ⟨v2_2, ev2_2, hf⟩ := lt_some hf
      have hv2_2 : inR v2_2 := inR_of ev2_2 (inR_wrap _)
      refine lv_iinc (v := i2 v2_2) (lv' := [(2, .int (i2 v2_2)), (0, .ref (ad 80)), (1, .int (i2 v1))]) hx hb dX11_isSound_66 hl (k := 2) rfl (by rw [ev2_2]; exact i2_add _ _) (by decide) rfl (fun ls hl => ?_)
      refine lv_goto (tgt := 42) hx hb dX11_isSound_69 (by decide) ?_
      exact HC v2_2 _ _ _ (Option.some.inj hf).symm hv2_2 (lv_sub hl [1, 2, 0] rfl) w
    · replace hf := ite_f cd_2 hf
      refine g_iconst X dX11_isSound_64 ?_
      exact HR 0 _ _ _ _ (Option.some.inj hf).symm (Or.inl rfl) w dX11_isSound_65
set_option maxRecDepth 100000 in
set_option maxHeartbeats 4000000 in
theorem l_X11_isSound_42 (X : CX p s m args c cX11_isSound 5 RX11 D aC ad sg A H0) (v1 : Int) (hv1 : inR v1) {M : Mem} {out : (Int) ⊕ (Int)} (HE : ∀ (y2 : Int) (H : Heap) (locs : List Loc) (ls : Array Slot), out = .inl y2 → inR y2 → lv_has ls 5 [(0, .ref (ad 80)), (1, .int (i2 v1)), (2, .int (i2 y2))] → WS D aC ad A H0 M H locs → W p l e rm_X11_isSound s m args below meth c H locs 0 0 Q (F0 m 72 ls [])) (HR : ∀ (r : Int) (H : Heap) (locs : List Loc) (pc : Nat) (ls : Array Slot), out = .inr r → isZ r → WS D aC ad A H0 M H locs → decode cX11_isSound pc = .ok (.ireturn, 1) → W p l e rm_X11_isSound s m args below meth c H locs 0 0 Q (F0 m pc ls [.int (i2 r)])) : ∀ (n : Nat) (v2 : Int), whl (fun s => f_X11_isSound_s42 v1 M s) n v2 = some out → inR v2 → ∀ {H : Heap} {locs : List Loc} {ls : Array Slot}, lv_has ls 5 [(0, .ref (ad 80)), (1, .int (i2 v1)), (2, .int (i2 v2))] → WS D aC ad A H0 M H locs → W p l e rm_X11_isSound s m args below meth c H locs 0 0 Q (F0 m 42 ls []) := by
  intro n
  induction n with
  | zero => intro v2 hf; exact (whl_zero hf).elim
  | succ n ih =>
    intro v2 hf hv2 H locs ls hl w
    obtain ⟨o, hf, hk1, hk2⟩ := whl_step hf
    exact b_X11_isSound_s42 X v1 hv1 (fun y2 H locs ls eo hy2 hl w => ih y2 (hk1 _ eo) hy2 hl w) (fun y2 H locs ls eo hy2 hl w => HE y2 H locs ls (hk2 _ eo).symm hy2 hl w) (fun r H locs pc ls eo hP w dg => HR r H locs pc ls (hk2 _ eo).symm hP w dg) v2 hv2 hf hl w
set_option maxRecDepth 100000 in
set_option maxHeartbeats 4000000 in
theorem b_X11_isSound_j155k117 (X : CX p s m args c cX11_isSound 5 RX11 D aC ad sg A H0) (v1 : Int) (hv1 : inR v1) (v2 : Int) (hv2 : inR v2) {M : Mem} {o : (Int) ⊕ ((Int) ⊕ (Int))} (HC : ∀ (y3 : Int) (H : Heap) (locs : List Loc) (ls : Array Slot), o = .inl y3 → inR y3 → lv_has ls 5 [(0, .ref (ad 80)), (1, .int (i2 v1)), (2, .int (i2 v2)), (3, .int (i2 y3))] → WS D aC ad A H0 M H locs → W p l e rm_X11_isSound s m args below meth c H locs 0 0 Q (F0 m 117 ls [])) (HE : ∀ (y3 : Int) (H : Heap) (locs : List Loc) (ls : Array Slot), o = .inr (.inl y3) → inR y3 → lv_has ls 5 [(0, .ref (ad 80)), (1, .int (i2 v1)), (2, .int (i2 v2)), (3, .int (i2 y3))] → WS D aC ad A H0 M H locs → W p l e rm_X11_isSound s m args below meth c H locs 0 0 Q (F0 m 218 ls [])) (HR : ∀ (r : Int) (H : Heap) (locs : List Loc) (pc : Nat) (ls : Array Slot), o = .inr (.inr r) → isZ r → WS D aC ad A H0 M H locs → decode cX11_isSound pc = .ok (.ireturn, 1) → W p l e rm_X11_isSound s m args below meth c H locs 0 0 Q (F0 m pc ls [.int (i2 r)])) (v3 : Int) (hv3 : inR v3) (s0 : Int) (hs0 : inR s0) (hf : f_X11_isSound_j155k117 v1 v2 v3 s0 M = some o) {H : Heap} {locs : List Loc} {ls : Array Slot} (hl : lv_has ls 5 [(0, .ref (ad 80)), (1, .int (i2 v1)), (2, .int (i2 v2)), (3, .int (i2 v3))]) (w : WS D aC ad A H0 M H locs) : W p l e rm_X11_isSound s m args below meth c H locs 0 0 Q (F0 m 155 ls [.int (i2 s0)]) := by
  have hx := X.1.1
  have hb := X.1.2.1
  unfold f_X11_isSound_j155k117 at hf
  refine g_ist (v := s0) (lv' := [(4, .int (i2 s0)), (0, .ref (ad 80)), (1, .int (i2 v1)), (2, .int (i2 v2)), (3, .int (i2 v3))]) X rfl dX11_isSound_155 hl (by decide) rfl (fun ls hl => ?_)
  refine lv_iload hx hb dX11_isSound_157 (lv_at hl 0 rfl) ?_
  refine g_if_eq (tgt := 176) X hs0 dX11_isSound_159 (by decide) (fun cd => ?_) (fun cd => ?_)
  · replace hf := ite_t cd hf
    refine lv_aload_n hx hb dX11_isSound_176 rfl (lv_at hl 1 rfl) ?_
    refine g_getr X w fg_X11_35 KD_80 FR_80_10 dX11_isSound_177 ?_
    refine g_bipush X dX11_isSound_180 (by decide) ?_
    refine lv_iload_n hx hb dX11_isSound_182 rfl (lv_at hl 3 rfl) ?_
    refine g_imul X dX11_isSound_183 ?_
    refine lv_iload_n hx hb dX11_isSound_184 rfl (lv_at hl 4 rfl) ?_
    refine g_iadd X dX11_isSound_185 ?_
    obtain ⟨hg, hf⟩ := gd_some hf
    refine g_zald X w KD_89 (inR_wrap _) hg dX11_isSound_186 ?_
    refine g_if_eq (tgt := 212) X (w.2.2 _ _) dX11_isSound_187 (by decide) (fun cd_2 => ?_) (fun cd_2 => ?_)
    · replace hf := ite_t cd_2 hf
      obtain ⟨v3_2, ev3_2, hf⟩ := lt_some hf
      have hv3_2 : inR v3_2 := inR_of ev3_2 (inR_wrap _)
      refine lv_iinc (v := i2 v3_2) (lv' := [(3, .int (i2 v3_2)), (4, .int (i2 s0)), (0, .ref (ad 80)), (1, .int (i2 v1)), (2, .int (i2 v2))]) hx hb dX11_isSound_212 hl (k := 4) rfl (by rw [ev3_2]; exact i2_add _ _) (by decide) rfl (fun ls hl => ?_)
      refine lv_goto (tgt := 117) hx hb dX11_isSound_215 (by decide) ?_
      exact HC v3_2 _ _ _ (Option.some.inj hf).symm hv3_2 (lv_sub hl [2, 3, 4, 0] rfl) w
    · replace hf := ite_f cd_2 hf
      refine lv_iload_n hx hb dX11_isSound_190 rfl (lv_at hl 2 rfl) ?_
      refine g_iconst X dX11_isSound_191 ?_
      refine g_icmp_ne (tgt := 200) X hv1 (inL rfl) dX11_isSound_192 (by decide) (fun cd_3 => ?_) (fun cd_3 => ?_)
      · replace hf := ite_f cd_3 hf
        refine lv_iload_n hx hb dX11_isSound_200 rfl (lv_at hl 2 rfl) ?_
        refine g_iconst X dX11_isSound_201 ?_
        refine g_icmp_ne (tgt := 212) X hv1 (inL rfl) dX11_isSound_202 (by decide) (fun cd_4 => ?_) (fun cd_4 => ?_)
        · replace hf := ite_f cd_4 hf
          obtain ⟨v3_3, ev3_3, hf⟩ := lt_some hf
          have hv3_3 : inR v3_3 := inR_of ev3_3 (inR_wrap _)
          refine lv_iinc (v := i2 v3_3) (lv' := [(3, .int (i2 v3_3)), (4, .int (i2 s0)), (0, .ref (ad 80)), (1, .int (i2 v1)), (2, .int (i2 v2))]) hx hb dX11_isSound_212 hl (k := 4) rfl (by rw [ev3_3]; exact i2_add _ _) (by decide) rfl (fun ls hl => ?_)
          refine lv_goto (tgt := 117) hx hb dX11_isSound_215 (by decide) ?_
          exact HC v3_3 _ _ _ (Option.some.inj hf).symm hv3_3 (lv_sub hl [2, 3, 4, 0] rfl) w
        · replace hf := ite_t cd_4 hf
          refine lv_iload hx hb dX11_isSound_205 (lv_at hl 0 rfl) ?_
          refine g_if_ne (tgt := 212) X hs0 dX11_isSound_207 (by decide) (fun cd_5 => ?_) (fun cd_5 => ?_)
          · replace hf := ite_f cd_5 hf
            obtain ⟨v3_4, ev3_4, hf⟩ := lt_some hf
            have hv3_4 : inR v3_4 := inR_of ev3_4 (inR_wrap _)
            refine lv_iinc (v := i2 v3_4) (lv' := [(3, .int (i2 v3_4)), (4, .int (i2 s0)), (0, .ref (ad 80)), (1, .int (i2 v1)), (2, .int (i2 v2))]) hx hb dX11_isSound_212 hl (k := 4) rfl (by rw [ev3_4]; exact i2_add _ _) (by decide) rfl (fun ls hl => ?_)
            refine lv_goto (tgt := 117) hx hb dX11_isSound_215 (by decide) ?_
            exact HC v3_4 _ _ _ (Option.some.inj hf).symm hv3_4 (lv_sub hl [2, 3, 4, 0] rfl) w
          · replace hf := ite_t cd_5 hf
            refine g_iconst X dX11_isSound_210 ?_
            exact HR 0 _ _ _ _ (Option.some.inj hf).symm (Or.inl rfl) w dX11_isSound_211
      · replace hf := ite_t cd_3 hf
        refine lv_iload hx hb dX11_isSound_195 (lv_at hl 0 rfl) ?_
        refine g_if_ne (tgt := 210) X hs0 dX11_isSound_197 (by decide) (fun cd_6 => ?_) (fun cd_6 => ?_)
        · replace hf := ite_f cd_6 hf
          refine g_iconst X dX11_isSound_210 ?_
          exact HR 0 _ _ _ _ (Option.some.inj hf).symm (Or.inl rfl) w dX11_isSound_211
        · replace hf := ite_t cd_6 hf
          refine lv_iload_n hx hb dX11_isSound_200 rfl (lv_at hl 2 rfl) ?_
          refine g_iconst X dX11_isSound_201 ?_
          refine g_icmp_ne (tgt := 212) X hv1 (inL rfl) dX11_isSound_202 (by decide) (fun cd_7 => ?_) (fun cd_7 => ?_)
          · replace hf := ite_f cd_7 hf
            obtain ⟨v3_5, ev3_5, hf⟩ := lt_some hf
            have hv3_5 : inR v3_5 := inR_of ev3_5 (inR_wrap _)
            refine lv_iinc (v := i2 v3_5) (lv' := [(3, .int (i2 v3_5)), (4, .int (i2 s0)), (0, .ref (ad 80)), (1, .int (i2 v1)), (2, .int (i2 v2))]) hx hb dX11_isSound_212 hl (k := 4) rfl (by rw [ev3_5]; exact i2_add _ _) (by decide) rfl (fun ls hl => ?_)
            refine lv_goto (tgt := 117) hx hb dX11_isSound_215 (by decide) ?_
            exact HC v3_5 _ _ _ (Option.some.inj hf).symm hv3_5 (lv_sub hl [2, 3, 4, 0] rfl) w
          · replace hf := ite_t cd_7 hf
            refine lv_iload hx hb dX11_isSound_205 (lv_at hl 0 rfl) ?_
            refine g_if_ne (tgt := 212) X hs0 dX11_isSound_207 (by decide) (fun cd_8 => ?_) (fun cd_8 => ?_)
            · replace hf := ite_f cd_8 hf
              obtain ⟨v3_6, ev3_6, hf⟩ := lt_some hf
              have hv3_6 : inR v3_6 := inR_of ev3_6 (inR_wrap _)
              refine lv_iinc (v := i2 v3_6) (lv' := [(3, .int (i2 v3_6)), (4, .int (i2 s0)), (0, .ref (ad 80)), (1, .int (i2 v1)), (2, .int (i2 v2))]) hx hb dX11_isSound_212 hl (k := 4) rfl (by rw [ev3_6]; exact i2_add _ _) (by decide) rfl (fun ls hl => ?_)
              refine lv_goto (tgt := 117) hx hb dX11_isSound_215 (by decide) ?_
              exact HC v3_6 _ _ _ (Option.some.inj hf).symm hv3_6 (lv_sub hl [2, 3, 4, 0] rfl) w
            · replace hf := ite_t cd_8 hf
              refine g_iconst X dX11_isSound_210 ?_
              exact HR 0 _ _ _ _ (Option.some.inj hf).symm (Or.inl rfl) w dX11_isSound_211
  · replace hf := ite_f cd hf
    refine lv_aload_n hx hb dX11_isSound_162 rfl (lv_at hl 1 rfl) ?_
    refine g_getr X w fg_X11_31 KD_80 FR_80_9 dX11_isSound_163 ?_
    refine g_bipush X dX11_isSound_166 (by decide) ?_
    refine lv_iload_n hx hb dX11_isSound_168 rfl (lv_at hl 3 rfl) ?_
    refine g_imul X dX11_isSound_169 ?_
    refine lv_iload_n hx hb dX11_isSound_170 rfl (lv_at hl 4 rfl) ?_
    refine g_iadd X dX11_isSound_171 ?_
    obtain ⟨hg_2, hf⟩ := gd_some hf
    refine g_zald X w KD_88 (inR_wrap _) hg_2 dX11_isSound_172 ?_
    refine g_if_ne (tgt := 210) X (w.2.2 _ _) dX11_isSound_173 (by decide) (fun cd_9 => ?_) (fun cd_9 => ?_)
    · replace hf := ite_f cd_9 hf
      refine g_iconst X dX11_isSound_210 ?_
      exact HR 0 _ _ _ _ (Option.some.inj hf).symm (Or.inl rfl) w dX11_isSound_211
    · replace hf := ite_t cd_9 hf
      refine lv_aload_n hx hb dX11_isSound_176 rfl (lv_at hl 1 rfl) ?_
      refine g_getr X w fg_X11_35 KD_80 FR_80_10 dX11_isSound_177 ?_
      refine g_bipush X dX11_isSound_180 (by decide) ?_
      refine lv_iload_n hx hb dX11_isSound_182 rfl (lv_at hl 3 rfl) ?_
      refine g_imul X dX11_isSound_183 ?_
      refine lv_iload_n hx hb dX11_isSound_184 rfl (lv_at hl 4 rfl) ?_
      refine g_iadd X dX11_isSound_185 ?_
      obtain ⟨hg_3, hf⟩ := gd_some hf
      refine g_zald X w KD_89 (inR_wrap _) hg_3 dX11_isSound_186 ?_
      refine g_if_eq (tgt := 212) X (w.2.2 _ _) dX11_isSound_187 (by decide) (fun cd_10 => ?_) (fun cd_10 => ?_)
      · replace hf := ite_t cd_10 hf
        obtain ⟨v3_7, ev3_7, hf⟩ := lt_some hf
        have hv3_7 : inR v3_7 := inR_of ev3_7 (inR_wrap _)
        refine lv_iinc (v := i2 v3_7) (lv' := [(3, .int (i2 v3_7)), (4, .int (i2 s0)), (0, .ref (ad 80)), (1, .int (i2 v1)), (2, .int (i2 v2))]) hx hb dX11_isSound_212 hl (k := 4) rfl (by rw [ev3_7]; exact i2_add _ _) (by decide) rfl (fun ls hl => ?_)
        refine lv_goto (tgt := 117) hx hb dX11_isSound_215 (by decide) ?_
        exact HC v3_7 _ _ _ (Option.some.inj hf).symm hv3_7 (lv_sub hl [2, 3, 4, 0] rfl) w
      · replace hf := ite_f cd_10 hf
        refine lv_iload_n hx hb dX11_isSound_190 rfl (lv_at hl 2 rfl) ?_
        refine g_iconst X dX11_isSound_191 ?_
        refine g_icmp_ne (tgt := 200) X hv1 (inL rfl) dX11_isSound_192 (by decide) (fun cd_11 => ?_) (fun cd_11 => ?_)
        · replace hf := ite_f cd_11 hf
          refine lv_iload_n hx hb dX11_isSound_200 rfl (lv_at hl 2 rfl) ?_
          refine g_iconst X dX11_isSound_201 ?_
          refine g_icmp_ne (tgt := 212) X hv1 (inL rfl) dX11_isSound_202 (by decide) (fun cd_12 => ?_) (fun cd_12 => ?_)
          · replace hf := ite_f cd_12 hf
            obtain ⟨v3_8, ev3_8, hf⟩ := lt_some hf
            have hv3_8 : inR v3_8 := inR_of ev3_8 (inR_wrap _)
            refine lv_iinc (v := i2 v3_8) (lv' := [(3, .int (i2 v3_8)), (4, .int (i2 s0)), (0, .ref (ad 80)), (1, .int (i2 v1)), (2, .int (i2 v2))]) hx hb dX11_isSound_212 hl (k := 4) rfl (by rw [ev3_8]; exact i2_add _ _) (by decide) rfl (fun ls hl => ?_)
            refine lv_goto (tgt := 117) hx hb dX11_isSound_215 (by decide) ?_
            exact HC v3_8 _ _ _ (Option.some.inj hf).symm hv3_8 (lv_sub hl [2, 3, 4, 0] rfl) w
          · replace hf := ite_t cd_12 hf
            refine lv_iload hx hb dX11_isSound_205 (lv_at hl 0 rfl) ?_
            refine g_if_ne (tgt := 212) X hs0 dX11_isSound_207 (by decide) (fun cd_13 => ?_) (fun cd_13 => ?_)
            · replace hf := ite_f cd_13 hf
              obtain ⟨v3_9, ev3_9, hf⟩ := lt_some hf
              have hv3_9 : inR v3_9 := inR_of ev3_9 (inR_wrap _)
              refine lv_iinc (v := i2 v3_9) (lv' := [(3, .int (i2 v3_9)), (4, .int (i2 s0)), (0, .ref (ad 80)), (1, .int (i2 v1)), (2, .int (i2 v2))]) hx hb dX11_isSound_212 hl (k := 4) rfl (by rw [ev3_9]; exact i2_add _ _) (by decide) rfl (fun ls hl => ?_)
              refine lv_goto (tgt := 117) hx hb dX11_isSound_215 (by decide) ?_
              exact HC v3_9 _ _ _ (Option.some.inj hf).symm hv3_9 (lv_sub hl [2, 3, 4, 0] rfl) w
            · replace hf := ite_t cd_13 hf
              refine g_iconst X dX11_isSound_210 ?_
              exact HR 0 _ _ _ _ (Option.some.inj hf).symm (Or.inl rfl) w dX11_isSound_211
        · replace hf := ite_t cd_11 hf
          refine lv_iload hx hb dX11_isSound_195 (lv_at hl 0 rfl) ?_
          refine g_if_ne (tgt := 210) X hs0 dX11_isSound_197 (by decide) (fun cd_14 => ?_) (fun cd_14 => ?_)
          · replace hf := ite_f cd_14 hf
            refine g_iconst X dX11_isSound_210 ?_
            exact HR 0 _ _ _ _ (Option.some.inj hf).symm (Or.inl rfl) w dX11_isSound_211
          · replace hf := ite_t cd_14 hf
            refine lv_iload_n hx hb dX11_isSound_200 rfl (lv_at hl 2 rfl) ?_
            refine g_iconst X dX11_isSound_201 ?_
            refine g_icmp_ne (tgt := 212) X hv1 (inL rfl) dX11_isSound_202 (by decide) (fun cd_15 => ?_) (fun cd_15 => ?_)
            · replace hf := ite_f cd_15 hf
              obtain ⟨v3_10, ev3_10, hf⟩ := lt_some hf
              have hv3_10 : inR v3_10 := inR_of ev3_10 (inR_wrap _)
              refine lv_iinc (v := i2 v3_10) (lv' := [(3, .int (i2 v3_10)), (4, .int (i2 s0)), (0, .ref (ad 80)), (1, .int (i2 v1)), (2, .int (i2 v2))]) hx hb dX11_isSound_212 hl (k := 4) rfl (by rw [ev3_10]; exact i2_add _ _) (by decide) rfl (fun ls hl => ?_)
              refine lv_goto (tgt := 117) hx hb dX11_isSound_215 (by decide) ?_
              exact HC v3_10 _ _ _ (Option.some.inj hf).symm hv3_10 (lv_sub hl [2, 3, 4, 0] rfl) w
            · replace hf := ite_t cd_15 hf
              refine lv_iload hx hb dX11_isSound_205 (lv_at hl 0 rfl) ?_
              refine g_if_ne (tgt := 212) X hs0 dX11_isSound_207 (by decide) (fun cd_16 => ?_) (fun cd_16 => ?_)
              · replace hf := ite_f cd_16 hf
                obtain ⟨v3_11, ev3_11, hf⟩ := lt_some hf
                have hv3_11 : inR v3_11 := inR_of ev3_11 (inR_wrap _)
                refine lv_iinc (v := i2 v3_11) (lv' := [(3, .int (i2 v3_11)), (4, .int (i2 s0)), (0, .ref (ad 80)), (1, .int (i2 v1)), (2, .int (i2 v2))]) hx hb dX11_isSound_212 hl (k := 4) rfl (by rw [ev3_11]; exact i2_add _ _) (by decide) rfl (fun ls hl => ?_)
                refine lv_goto (tgt := 117) hx hb dX11_isSound_215 (by decide) ?_
                exact HC v3_11 _ _ _ (Option.some.inj hf).symm hv3_11 (lv_sub hl [2, 3, 4, 0] rfl) w
              · replace hf := ite_t cd_16 hf
                refine g_iconst X dX11_isSound_210 ?_
                exact HR 0 _ _ _ _ (Option.some.inj hf).symm (Or.inl rfl) w dX11_isSound_211
set_option maxRecDepth 100000 in
set_option maxHeartbeats 4000000 in
theorem b_X11_isSound_s117 (X : CX p s m args c cX11_isSound 5 RX11 D aC ad sg A H0) (v1 : Int) (hv1 : inR v1) (v2 : Int) (hv2 : inR v2) {M : Mem} {o : (Int) ⊕ ((Int) ⊕ (Int))} (HC : ∀ (y3 : Int) (H : Heap) (locs : List Loc) (ls : Array Slot), o = .inl y3 → inR y3 → lv_has ls 5 [(0, .ref (ad 80)), (1, .int (i2 v1)), (2, .int (i2 v2)), (3, .int (i2 y3))] → WS D aC ad A H0 M H locs → W p l e rm_X11_isSound s m args below meth c H locs 0 0 Q (F0 m 117 ls [])) (HE : ∀ (y3 : Int) (H : Heap) (locs : List Loc) (ls : Array Slot), o = .inr (.inl y3) → inR y3 → lv_has ls 5 [(0, .ref (ad 80)), (1, .int (i2 v1)), (2, .int (i2 v2)), (3, .int (i2 y3))] → WS D aC ad A H0 M H locs → W p l e rm_X11_isSound s m args below meth c H locs 0 0 Q (F0 m 218 ls [])) (HR : ∀ (r : Int) (H : Heap) (locs : List Loc) (pc : Nat) (ls : Array Slot), o = .inr (.inr r) → isZ r → WS D aC ad A H0 M H locs → decode cX11_isSound pc = .ok (.ireturn, 1) → W p l e rm_X11_isSound s m args below meth c H locs 0 0 Q (F0 m pc ls [.int (i2 r)])) (v3 : Int) (hv3 : inR v3) (hf : f_X11_isSound_s117 v1 v2 M v3 = some o) {H : Heap} {locs : List Loc} {ls : Array Slot} (hl : lv_has ls 5 [(0, .ref (ad 80)), (1, .int (i2 v1)), (2, .int (i2 v2)), (3, .int (i2 v3))]) (w : WS D aC ad A H0 M H locs) : W p l e rm_X11_isSound s m args below meth c H locs 0 0 Q (F0 m 117 ls []) := by
  have hx := X.1.1
  have hb := X.1.2.1
  unfold f_X11_isSound_s117 at hf
  refine lv_iload_n hx hb dX11_isSound_117 rfl (lv_at hl 3 rfl) ?_
  refine lv_iload_n hx hb dX11_isSound_118 rfl (lv_at hl 2 rfl) ?_
  refine g_icmp_ge (tgt := 218) X hv3 hv2 dX11_isSound_119 (by decide) (fun cd => ?_) (fun cd => ?_)
  · replace hf := ite_t cd hf
    exact HE v3 _ _ _ (Option.some.inj hf).symm hv3 hl w
  · replace hf := ite_f cd hf
    refine lv_aload_n hx hb dX11_isSound_122 rfl (lv_at hl 0 rfl) ?_
    refine g_getr X w fg_X11_100 KD_80 FR_80_41 dX11_isSound_123 ?_
    refine lv_iload_n hx hb dX11_isSound_126 rfl (lv_at hl 3 rfl) ?_
    obtain ⟨hg, hf⟩ := gd_some hf
    refine g_iald X w KD_108 hv3 hg dX11_isSound_127 ?_
    refine g_iconst X dX11_isSound_128 ?_
    refine g_icmp_ne (tgt := 135) X (w.2.2 _ _) (inL rfl) dX11_isSound_129 (by decide) (fun cd_2 => ?_) (fun cd_2 => ?_)
    · replace hf := ite_f cd_2 hf
      refine lv_aload_n hx hb dX11_isSound_135 rfl (lv_at hl 0 rfl) ?_
      refine g_getr X w fg_X11_100 KD_80 FR_80_41 dX11_isSound_136 ?_
      refine lv_iload_n hx hb dX11_isSound_139 rfl (lv_at hl 2 rfl) ?_
      obtain ⟨hg_2, hf⟩ := gd_some hf
      refine g_iald X w KD_108 hv2 hg_2 dX11_isSound_140 ?_
      refine lv_aload_n hx hb dX11_isSound_141 rfl (lv_at hl 0 rfl) ?_
      refine g_getr X w fg_X11_100 KD_80 FR_80_41 dX11_isSound_142 ?_
      refine lv_iload_n hx hb dX11_isSound_145 rfl (lv_at hl 3 rfl) ?_
      obtain ⟨hg_3, hf⟩ := gd_some hf
      refine g_iald X w KD_108 hv3 hg_3 dX11_isSound_146 ?_
      refine g_icmp_ne (tgt := 154) X (w.2.2 _ _) (w.2.2 _ _) dX11_isSound_147 (by decide) (fun cd_3 => ?_) (fun cd_3 => ?_)
      · replace hf := ite_f cd_3 hf
        refine g_iconst X dX11_isSound_154 ?_
        exact b_X11_isSound_j155k117 X v1 hv1 v2 hv2 HC HE HR v3 hv3 0 (inL rfl) hf hl w
      · replace hf := ite_t cd_3 hf
        refine g_iconst X dX11_isSound_150 ?_
        refine lv_goto (tgt := 155) hx hb dX11_isSound_151 (by decide) ?_
        exact b_X11_isSound_j155k117 X v1 hv1 v2 hv2 HC HE HR v3 hv3 1 (inL rfl) hf hl w
    · replace hf := ite_t cd_2 hf
      refine lv_goto (tgt := 212) hx hb dX11_isSound_132 (by decide) ?_
      obtain ⟨v3_2, ev3_2, hf⟩ := lt_some hf
      have hv3_2 : inR v3_2 := inR_of ev3_2 (inR_wrap _)
      refine lv_iinc (v := i2 v3_2) (lv' := [(3, .int (i2 v3_2)), (0, .ref (ad 80)), (1, .int (i2 v1)), (2, .int (i2 v2))]) hx hb dX11_isSound_212 hl (k := 3) rfl (by rw [ev3_2]; exact i2_add _ _) (by decide) rfl (fun ls hl => ?_)
      refine lv_goto (tgt := 117) hx hb dX11_isSound_215 (by decide) ?_
      exact HC v3_2 _ _ _ (Option.some.inj hf).symm hv3_2 (lv_sub hl [1, 2, 3, 0] rfl) w
set_option maxRecDepth 100000 in
set_option maxHeartbeats 4000000 in
theorem l_X11_isSound_117 (X : CX p s m args c cX11_isSound 5 RX11 D aC ad sg A H0) (v1 : Int) (hv1 : inR v1) (v2 : Int) (hv2 : inR v2) {M : Mem} {out : (Int) ⊕ (Int)} (HE : ∀ (y3 : Int) (H : Heap) (locs : List Loc) (ls : Array Slot), out = .inl y3 → inR y3 → lv_has ls 5 [(0, .ref (ad 80)), (1, .int (i2 v1)), (2, .int (i2 v2)), (3, .int (i2 y3))] → WS D aC ad A H0 M H locs → W p l e rm_X11_isSound s m args below meth c H locs 0 0 Q (F0 m 218 ls [])) (HR : ∀ (r : Int) (H : Heap) (locs : List Loc) (pc : Nat) (ls : Array Slot), out = .inr r → isZ r → WS D aC ad A H0 M H locs → decode cX11_isSound pc = .ok (.ireturn, 1) → W p l e rm_X11_isSound s m args below meth c H locs 0 0 Q (F0 m pc ls [.int (i2 r)])) : ∀ (n : Nat) (v3 : Int), whl (fun s => f_X11_isSound_s117 v1 v2 M s) n v3 = some out → inR v3 → ∀ {H : Heap} {locs : List Loc} {ls : Array Slot}, lv_has ls 5 [(0, .ref (ad 80)), (1, .int (i2 v1)), (2, .int (i2 v2)), (3, .int (i2 v3))] → WS D aC ad A H0 M H locs → W p l e rm_X11_isSound s m args below meth c H locs 0 0 Q (F0 m 117 ls []) := by
  intro n
  induction n with
  | zero => intro v3 hf; exact (whl_zero hf).elim
  | succ n ih =>
    intro v3 hf hv3 H locs ls hl w
    obtain ⟨o, hf, hk1, hk2⟩ := whl_step hf
    exact b_X11_isSound_s117 X v1 hv1 v2 hv2 (fun y3 H locs ls eo hy3 hl w => ih y3 (hk1 _ eo) hy3 hl w) (fun y3 H locs ls eo hy3 hl w => HE y3 H locs ls (hk2 _ eo).symm hy3 hl w) (fun r H locs pc ls eo hP w dg => HR r H locs pc ls (hk2 _ eo).symm hP w dg) v3 hv3 hf hl w
set_option maxRecDepth 100000 in
set_option maxHeartbeats 4000000 in
theorem b_X11_isSound_j218k74 (X : CX p s m args c cX11_isSound 5 RX11 D aC ad sg A H0) (v1 : Int) (hv1 : inR v1) {M : Mem} {o : (Int) ⊕ ((Int) ⊕ (Int))} (HC : ∀ (y2 : Int) (H : Heap) (locs : List Loc) (ls : Array Slot), o = .inl y2 → inR y2 → lv_has ls 5 [(0, .ref (ad 80)), (1, .int (i2 v1)), (2, .int (i2 y2))] → WS D aC ad A H0 M H locs → W p l e rm_X11_isSound s m args below meth c H locs 0 0 Q (F0 m 74 ls [])) (HE : ∀ (y2 : Int) (H : Heap) (locs : List Loc) (ls : Array Slot), o = .inr (.inl y2) → inR y2 → lv_has ls 5 [(0, .ref (ad 80)), (1, .int (i2 v1)), (2, .int (i2 y2))] → WS D aC ad A H0 M H locs → W p l e rm_X11_isSound s m args below meth c H locs 0 0 Q (F0 m 224 ls [])) (HR : ∀ (r : Int) (H : Heap) (locs : List Loc) (pc : Nat) (ls : Array Slot), o = .inr (.inr r) → isZ r → WS D aC ad A H0 M H locs → decode cX11_isSound pc = .ok (.ireturn, 1) → W p l e rm_X11_isSound s m args below meth c H locs 0 0 Q (F0 m pc ls [.int (i2 r)])) (v2 : Int) (hv2 : inR v2) (hf : f_X11_isSound_j218k74 v1 v2 M = some o) {H : Heap} {locs : List Loc} {ls : Array Slot} (hl : lv_has ls 5 [(0, .ref (ad 80)), (1, .int (i2 v1)), (2, .int (i2 v2))]) (w : WS D aC ad A H0 M H locs) : W p l e rm_X11_isSound s m args below meth c H locs 0 0 Q (F0 m 218 ls []) := by
  have hx := X.1.1
  have hb := X.1.2.1
  unfold f_X11_isSound_j218k74 at hf
  obtain ⟨v2_2, ev2_2, hf⟩ := lt_some hf
  have hv2_2 : inR v2_2 := inR_of ev2_2 (inR_wrap _)
  refine lv_iinc (v := i2 v2_2) (lv' := [(2, .int (i2 v2_2)), (0, .ref (ad 80)), (1, .int (i2 v1))]) hx hb dX11_isSound_218 hl (k := 2) rfl (by rw [ev2_2]; exact i2_add _ _) (by decide) rfl (fun ls hl => ?_)
  refine lv_goto (tgt := 74) hx hb dX11_isSound_221 (by decide) ?_
  exact HC v2_2 _ _ _ (Option.some.inj hf).symm hv2_2 (lv_sub hl [1, 2, 0] rfl) w
set_option maxRecDepth 100000 in
set_option maxHeartbeats 4000000 in
theorem b_X11_isSound_s74 (X : CX p s m args c cX11_isSound 5 RX11 D aC ad sg A H0) (v1 : Int) (hv1 : inR v1) {M : Mem} {o : (Int) ⊕ ((Int) ⊕ (Int))} (HC : ∀ (y2 : Int) (H : Heap) (locs : List Loc) (ls : Array Slot), o = .inl y2 → inR y2 → lv_has ls 5 [(0, .ref (ad 80)), (1, .int (i2 v1)), (2, .int (i2 y2))] → WS D aC ad A H0 M H locs → W p l e rm_X11_isSound s m args below meth c H locs 0 0 Q (F0 m 74 ls [])) (HE : ∀ (y2 : Int) (H : Heap) (locs : List Loc) (ls : Array Slot), o = .inr (.inl y2) → inR y2 → lv_has ls 5 [(0, .ref (ad 80)), (1, .int (i2 v1)), (2, .int (i2 y2))] → WS D aC ad A H0 M H locs → W p l e rm_X11_isSound s m args below meth c H locs 0 0 Q (F0 m 224 ls [])) (HR : ∀ (r : Int) (H : Heap) (locs : List Loc) (pc : Nat) (ls : Array Slot), o = .inr (.inr r) → isZ r → WS D aC ad A H0 M H locs → decode cX11_isSound pc = .ok (.ireturn, 1) → W p l e rm_X11_isSound s m args below meth c H locs 0 0 Q (F0 m pc ls [.int (i2 r)])) (v2 : Int) (hv2 : inR v2) (hf : f_X11_isSound_s74 v1 M v2 = some o) {H : Heap} {locs : List Loc} {ls : Array Slot} (hl : lv_has ls 5 [(0, .ref (ad 80)), (1, .int (i2 v1)), (2, .int (i2 v2))]) (w : WS D aC ad A H0 M H locs) : W p l e rm_X11_isSound s m args below meth c H locs 0 0 Q (F0 m 74 ls []) := by
  have hx := X.1.1
  have hb := X.1.2.1
  unfold f_X11_isSound_s74 at hf
  refine lv_iload_n hx hb dX11_isSound_74 rfl (lv_at hl 2 rfl) ?_
  refine lv_aload_n hx hb dX11_isSound_75 rfl (lv_at hl 0 rfl) ?_
  refine g_geti X w fg_X11_142 KD_80 FR_80_1 dX11_isSound_76 ?_
  refine g_icmp_ge (tgt := 224) X hv2 (w.2.2 _ _) dX11_isSound_79 (by decide) (fun cd => ?_) (fun cd => ?_)
  · replace hf := ite_t cd hf
    exact HE v2 _ _ _ (Option.some.inj hf).symm hv2 hl w
  · replace hf := ite_f cd hf
    refine lv_aload_n hx hb dX11_isSound_82 rfl (lv_at hl 0 rfl) ?_
    refine g_getr X w fg_X11_100 KD_80 FR_80_41 dX11_isSound_83 ?_
    refine lv_iload_n hx hb dX11_isSound_86 rfl (lv_at hl 2 rfl) ?_
    obtain ⟨hg, hf⟩ := gd_some hf
    refine g_iald X w KD_108 hv2 hg dX11_isSound_87 ?_
    refine g_iconst X dX11_isSound_88 ?_
    refine g_icmp_ne (tgt := 95) X (w.2.2 _ _) (inL rfl) dX11_isSound_89 (by decide) (fun cd_2 => ?_) (fun cd_2 => ?_)
    · replace hf := ite_f cd_2 hf
      refine lv_aload_n hx hb dX11_isSound_95 rfl (lv_at hl 0 rfl) ?_
      refine g_getr X w fg_X11_38 KD_80 FR_80_11 dX11_isSound_96 ?_
      refine g_iconst X dX11_isSound_99 ?_
      refine lv_iload_n hx hb dX11_isSound_100 rfl (lv_at hl 2 rfl) ?_
      refine g_imul X dX11_isSound_101 ?_
      refine lv_aload_n hx hb dX11_isSound_102 rfl (lv_at hl 0 rfl) ?_
      refine g_getr X w fg_X11_100 KD_80 FR_80_41 dX11_isSound_103 ?_
      refine lv_iload_n hx hb dX11_isSound_106 rfl (lv_at hl 2 rfl) ?_
      obtain ⟨hg_2, hf⟩ := gd_some hf
      refine g_iald X w KD_108 hv2 hg_2 dX11_isSound_107 ?_
      refine g_iadd X dX11_isSound_108 ?_
      obtain ⟨hg_3, hf⟩ := gd_some hf
      refine g_zald X w KD_90 (inR_wrap _) hg_3 dX11_isSound_109 ?_
      refine g_if_eq (tgt := 115) X (w.2.2 _ _) dX11_isSound_110 (by decide) (fun cd_3 => ?_) (fun cd_3 => ?_)
      · replace hf := ite_t cd_3 hf
        refine g_iconst X dX11_isSound_115 ?_
        refine g_istn (v := 0) (lv' := [(3, .int (i2 0)), (0, .ref (ad 80)), (1, .int (i2 v1)), (2, .int (i2 v2))]) X rfl dX11_isSound_116 rfl hl (by decide) rfl (fun ls hl => ?_)
        obtain ⟨q, hq, h1, h2⟩ := lpr_some hf
        exact l_X11_isSound_117 X v1 hv1 v2 hv2 (out := q) (fun y3 H locs ls eq hy3 hl w => b_X11_isSound_j218k74 X v1 hv1 HC HE HR v2 hv2 (h1 _ eq) (lv_sub hl [0, 1, 2] rfl) w) (fun r H locs pc ls eq hP w dg => HR r H locs pc ls (Option.some.inj (h2 _ eq)).symm hP w dg) FU 0 hq (inL rfl) (lv_sub hl [1, 2, 3, 0] rfl) w
      · replace hf := ite_f cd_3 hf
        refine g_iconst X dX11_isSound_113 ?_
        exact HR 0 _ _ _ _ (Option.some.inj hf).symm (Or.inl rfl) w dX11_isSound_114
    · replace hf := ite_t cd_2 hf
      refine lv_goto (tgt := 218) hx hb dX11_isSound_92 (by decide) ?_
      obtain ⟨v2_2, ev2_2, hf⟩ := lt_some hf
      have hv2_2 : inR v2_2 := inR_of ev2_2 (inR_wrap _)
      refine lv_iinc (v := i2 v2_2) (lv' := [(2, .int (i2 v2_2)), (0, .ref (ad 80)), (1, .int (i2 v1))]) hx hb dX11_isSound_218 hl (k := 2) rfl (by rw [ev2_2]; exact i2_add _ _) (by decide) rfl (fun ls hl => ?_)
      refine lv_goto (tgt := 74) hx hb dX11_isSound_221 (by decide) ?_
      exact HC v2_2 _ _ _ (Option.some.inj hf).symm hv2_2 (lv_sub hl [1, 2, 0] rfl) w
set_option maxRecDepth 100000 in
set_option maxHeartbeats 4000000 in
theorem l_X11_isSound_74 (X : CX p s m args c cX11_isSound 5 RX11 D aC ad sg A H0) (v1 : Int) (hv1 : inR v1) {M : Mem} {out : (Int) ⊕ (Int)} (HE : ∀ (y2 : Int) (H : Heap) (locs : List Loc) (ls : Array Slot), out = .inl y2 → inR y2 → lv_has ls 5 [(0, .ref (ad 80)), (1, .int (i2 v1)), (2, .int (i2 y2))] → WS D aC ad A H0 M H locs → W p l e rm_X11_isSound s m args below meth c H locs 0 0 Q (F0 m 224 ls [])) (HR : ∀ (r : Int) (H : Heap) (locs : List Loc) (pc : Nat) (ls : Array Slot), out = .inr r → isZ r → WS D aC ad A H0 M H locs → decode cX11_isSound pc = .ok (.ireturn, 1) → W p l e rm_X11_isSound s m args below meth c H locs 0 0 Q (F0 m pc ls [.int (i2 r)])) : ∀ (n : Nat) (v2 : Int), whl (fun s => f_X11_isSound_s74 v1 M s) n v2 = some out → inR v2 → ∀ {H : Heap} {locs : List Loc} {ls : Array Slot}, lv_has ls 5 [(0, .ref (ad 80)), (1, .int (i2 v1)), (2, .int (i2 v2))] → WS D aC ad A H0 M H locs → W p l e rm_X11_isSound s m args below meth c H locs 0 0 Q (F0 m 74 ls []) := by
  intro n
  induction n with
  | zero => intro v2 hf; exact (whl_zero hf).elim
  | succ n ih =>
    intro v2 hf hv2 H locs ls hl w
    obtain ⟨o, hf, hk1, hk2⟩ := whl_step hf
    exact b_X11_isSound_s74 X v1 hv1 (fun y2 H locs ls eo hy2 hl w => ih y2 (hk1 _ eo) hy2 hl w) (fun y2 H locs ls eo hy2 hl w => HE y2 H locs ls (hk2 _ eo).symm hy2 hl w) (fun r H locs pc ls eo hP w dg => HR r H locs pc ls (hk2 _ eo).symm hP w dg) v2 hv2 hf hl w
set_option maxRecDepth 100000 in
set_option maxHeartbeats 4000000 in
theorem b_X11_isSound_s226 (X : CX p s m args c cX11_isSound 5 RX11 D aC ad sg A H0) {M : Mem} {o : (Int) ⊕ ((Int) ⊕ (Int))} (HC : ∀ (y2 : Int) (H : Heap) (locs : List Loc) (ls : Array Slot), o = .inl y2 → inR y2 → lv_has ls 5 [(0, .ref (ad 80)), (2, .int (i2 y2))] → WS D aC ad A H0 M H locs → W p l e rm_X11_isSound s m args below meth c H locs 0 0 Q (F0 m 226 ls [])) (HE : ∀ (y2 : Int) (H : Heap) (locs : List Loc) (ls : Array Slot), o = .inr (.inl y2) → inR y2 → lv_has ls 5 [(0, .ref (ad 80)), (2, .int (i2 y2))] → WS D aC ad A H0 M H locs → W p l e rm_X11_isSound s m args below meth c H locs 0 0 Q (F0 m 250 ls [])) (HR : ∀ (r : Int) (H : Heap) (locs : List Loc) (pc : Nat) (ls : Array Slot), o = .inr (.inr r) → isZ r → WS D aC ad A H0 M H locs → decode cX11_isSound pc = .ok (.ireturn, 1) → W p l e rm_X11_isSound s m args below meth c H locs 0 0 Q (F0 m pc ls [.int (i2 r)])) (v2 : Int) (hv2 : inR v2) (hf : f_X11_isSound_s226 M v2 = some o) {H : Heap} {locs : List Loc} {ls : Array Slot} (hl : lv_has ls 5 [(0, .ref (ad 80)), (2, .int (i2 v2))]) (w : WS D aC ad A H0 M H locs) : W p l e rm_X11_isSound s m args below meth c H locs 0 0 Q (F0 m 226 ls []) := by
  have hx := X.1.1
  have hb := X.1.2.1
  unfold f_X11_isSound_s226 at hf
  refine lv_iload_n hx hb dX11_isSound_226 rfl (lv_at hl 1 rfl) ?_
  refine lv_aload_n hx hb dX11_isSound_227 rfl (lv_at hl 0 rfl) ?_
  refine g_geti X w fg_X11_307 KD_80 FR_80_21 dX11_isSound_228 ?_
  refine g_icmp_ge (tgt := 250) X hv2 (w.2.2 _ _) dX11_isSound_231 (by decide) (fun cd => ?_) (fun cd => ?_)
  · replace hf := ite_t cd hf
    exact HE v2 _ _ _ (Option.some.inj hf).symm hv2 hl w
  · replace hf := ite_f cd hf
    refine lv_aload_n hx hb dX11_isSound_234 rfl (lv_at hl 0 rfl) ?_
    refine lv_iload_n hx hb dX11_isSound_235 rfl (lv_at hl 1 rfl) ?_
    obtain ⟨r, hc, hf⟩ := obn_some hf
    refine g_cvi (As := [.int (i2 v2)]) (rest := []) X w (k_X11_isMet X.2.2.1 v2 hv2 w.2.2 hc) lk_X11_329 cl_11 KD_80 ⟨rfl, rfl⟩ ⟨nle rfl, nle rfl⟩ ⟨nle rfl, nle rfl⟩ hl.1 rfl (nle rfl) dX11_isSound_236 (fun hr H locs w => ?_)
    refine g_if_ne (tgt := 244) X hr dX11_isSound_239 (by decide) (fun cd_2 => ?_) (fun cd_2 => ?_)
    · replace hf := ite_f cd_2 hf
      obtain ⟨v2_2, ev2_2, hf⟩ := lt_some hf
      have hv2_2 : inR v2_2 := inR_of ev2_2 (inR_wrap _)
      refine lv_iinc (v := i2 v2_2) (lv' := [(2, .int (i2 v2_2)), (0, .ref (ad 80))]) hx hb dX11_isSound_244 hl (k := 1) rfl (by rw [ev2_2]; exact i2_add _ _) (by decide) rfl (fun ls hl => ?_)
      refine lv_goto (tgt := 226) hx hb dX11_isSound_247 (by decide) ?_
      exact HC v2_2 _ _ _ (Option.some.inj hf).symm hv2_2 (lv_sub hl [1, 0] rfl) w
    · replace hf := ite_t cd_2 hf
      refine g_iconst X dX11_isSound_242 ?_
      exact HR 0 _ _ _ _ (Option.some.inj hf).symm (Or.inl rfl) w dX11_isSound_243
set_option maxRecDepth 100000 in
set_option maxHeartbeats 4000000 in
theorem l_X11_isSound_226 (X : CX p s m args c cX11_isSound 5 RX11 D aC ad sg A H0) {M : Mem} {out : (Int) ⊕ (Int)} (HE : ∀ (y2 : Int) (H : Heap) (locs : List Loc) (ls : Array Slot), out = .inl y2 → inR y2 → lv_has ls 5 [(0, .ref (ad 80)), (2, .int (i2 y2))] → WS D aC ad A H0 M H locs → W p l e rm_X11_isSound s m args below meth c H locs 0 0 Q (F0 m 250 ls [])) (HR : ∀ (r : Int) (H : Heap) (locs : List Loc) (pc : Nat) (ls : Array Slot), out = .inr r → isZ r → WS D aC ad A H0 M H locs → decode cX11_isSound pc = .ok (.ireturn, 1) → W p l e rm_X11_isSound s m args below meth c H locs 0 0 Q (F0 m pc ls [.int (i2 r)])) : ∀ (n : Nat) (v2 : Int), whl (fun s => f_X11_isSound_s226 M s) n v2 = some out → inR v2 → ∀ {H : Heap} {locs : List Loc} {ls : Array Slot}, lv_has ls 5 [(0, .ref (ad 80)), (2, .int (i2 v2))] → WS D aC ad A H0 M H locs → W p l e rm_X11_isSound s m args below meth c H locs 0 0 Q (F0 m 226 ls []) := by
  intro n
  induction n with
  | zero => intro v2 hf; exact (whl_zero hf).elim
  | succ n ih =>
    intro v2 hf hv2 H locs ls hl w
    obtain ⟨o, hf, hk1, hk2⟩ := whl_step hf
    exact b_X11_isSound_s226 X  (fun y2 H locs ls eo hy2 hl w => ih y2 (hk1 _ eo) hy2 hl w) (fun y2 H locs ls eo hy2 hl w => HE y2 H locs ls (hk2 _ eo).symm hy2 hl w) (fun r H locs pc ls eo hP w dg => HR r H locs pc ls (hk2 _ eo).symm hP w dg) v2 hv2 hf hl w
set_option maxRecDepth 100000 in
set_option maxHeartbeats 4000000 in
theorem b_X11_isSound_j250 (X : CX p s m args c cX11_isSound 5 RX11 D aC ad sg A H0) {M : Mem} {o : Int} (HR : ∀ (r : Int) (H : Heap) (locs : List Loc) (pc : Nat) (ls : Array Slot), o = r → isZ r → WS D aC ad A H0 M H locs → decode cX11_isSound pc = .ok (.ireturn, 1) → W p l e rm_X11_isSound s m args below meth c H locs 0 0 Q (F0 m pc ls [.int (i2 r)])) (hf : f_X11_isSound_j250 M = some o) {H : Heap} {locs : List Loc} {ls : Array Slot} (hl : lv_has ls 5 []) (w : WS D aC ad A H0 M H locs) : W p l e rm_X11_isSound s m args below meth c H locs 0 0 Q (F0 m 250 ls []) := by
  have hx := X.1.1
  have hb := X.1.2.1
  unfold f_X11_isSound_j250 at hf
  refine g_iconst X dX11_isSound_250 ?_
  exact HR 1 _ _ _ _ (Option.some.inj hf).symm (Or.inr rfl) w dX11_isSound_251
set_option maxRecDepth 100000 in
set_option maxHeartbeats 4000000 in
theorem b_X11_isSound_j224 (X : CX p s m args c cX11_isSound 5 RX11 D aC ad sg A H0) {M : Mem} {o : Int} (HR : ∀ (r : Int) (H : Heap) (locs : List Loc) (pc : Nat) (ls : Array Slot), o = r → isZ r → WS D aC ad A H0 M H locs → decode cX11_isSound pc = .ok (.ireturn, 1) → W p l e rm_X11_isSound s m args below meth c H locs 0 0 Q (F0 m pc ls [.int (i2 r)])) (hf : f_X11_isSound_j224 M = some o) {H : Heap} {locs : List Loc} {ls : Array Slot} (hl : lv_has ls 5 [(0, .ref (ad 80))]) (w : WS D aC ad A H0 M H locs) : W p l e rm_X11_isSound s m args below meth c H locs 0 0 Q (F0 m 224 ls []) := by
  have hx := X.1.1
  have hb := X.1.2.1
  unfold f_X11_isSound_j224 at hf
  refine g_iconst X dX11_isSound_224 ?_
  refine g_istn (v := 0) (lv' := [(2, .int (i2 0)), (0, .ref (ad 80))]) X rfl dX11_isSound_225 rfl hl (by decide) rfl (fun ls hl => ?_)
  obtain ⟨q, hq, h1, h2⟩ := lpr_some hf
  exact l_X11_isSound_226 X  (out := q) (fun y2 H locs ls eq hy2 hl w => b_X11_isSound_j250 X  HR  (h1 _ eq) (lv_sub hl [] rfl) w) (fun r H locs pc ls eq hP w dg => HR r H locs pc ls (Option.some.inj (h2 _ eq)).symm hP w dg) FU 0 hq (inL rfl) (lv_sub hl [1, 0] rfl) w
set_option maxRecDepth 100000 in
set_option maxHeartbeats 4000000 in
theorem b_X11_isSound_j72 (X : CX p s m args c cX11_isSound 5 RX11 D aC ad sg A H0) {M : Mem} {o : Int} (HR : ∀ (r : Int) (H : Heap) (locs : List Loc) (pc : Nat) (ls : Array Slot), o = r → isZ r → WS D aC ad A H0 M H locs → decode cX11_isSound pc = .ok (.ireturn, 1) → W p l e rm_X11_isSound s m args below meth c H locs 0 0 Q (F0 m pc ls [.int (i2 r)])) (v1 : Int) (hv1 : inR v1) (hf : f_X11_isSound_j72 v1 M = some o) {H : Heap} {locs : List Loc} {ls : Array Slot} (hl : lv_has ls 5 [(0, .ref (ad 80)), (1, .int (i2 v1))]) (w : WS D aC ad A H0 M H locs) : W p l e rm_X11_isSound s m args below meth c H locs 0 0 Q (F0 m 72 ls []) := by
  have hx := X.1.1
  have hb := X.1.2.1
  unfold f_X11_isSound_j72 at hf
  refine g_iconst X dX11_isSound_72 ?_
  refine g_istn (v := 0) (lv' := [(2, .int (i2 0)), (0, .ref (ad 80)), (1, .int (i2 v1))]) X rfl dX11_isSound_73 rfl hl (by decide) rfl (fun ls hl => ?_)
  obtain ⟨q, hq, h1, h2⟩ := lpr_some hf
  exact l_X11_isSound_74 X v1 hv1 (out := q) (fun y2 H locs ls eq hy2 hl w => b_X11_isSound_j224 X  HR  (h1 _ eq) (lv_sub hl [0] rfl) w) (fun r H locs pc ls eq hP w dg => HR r H locs pc ls (Option.some.inj (h2 _ eq)).symm hP w dg) FU 0 hq (inL rfl) (lv_sub hl [1, 2, 0] rfl) w
set_option maxRecDepth 100000 in
set_option maxHeartbeats 4000000 in
theorem b_X11_isSound_j40 (X : CX p s m args c cX11_isSound 5 RX11 D aC ad sg A H0) {M : Mem} {o : Int} (HR : ∀ (r : Int) (H : Heap) (locs : List Loc) (pc : Nat) (ls : Array Slot), o = r → isZ r → WS D aC ad A H0 M H locs → decode cX11_isSound pc = .ok (.ireturn, 1) → W p l e rm_X11_isSound s m args below meth c H locs 0 0 Q (F0 m pc ls [.int (i2 r)])) (v1 : Int) (hv1 : inR v1) (hf : f_X11_isSound_j40 v1 M = some o) {H : Heap} {locs : List Loc} {ls : Array Slot} (hl : lv_has ls 5 [(0, .ref (ad 80)), (1, .int (i2 v1))]) (w : WS D aC ad A H0 M H locs) : W p l e rm_X11_isSound s m args below meth c H locs 0 0 Q (F0 m 40 ls []) := by
  have hx := X.1.1
  have hb := X.1.2.1
  unfold f_X11_isSound_j40 at hf
  refine g_iconst X dX11_isSound_40 ?_
  refine g_istn (v := 0) (lv' := [(2, .int (i2 0)), (0, .ref (ad 80)), (1, .int (i2 v1))]) X rfl dX11_isSound_41 rfl hl (by decide) rfl (fun ls hl => ?_)
  obtain ⟨q, hq, h1, h2⟩ := lpr_some hf
  exact l_X11_isSound_42 X v1 hv1 (out := q) (fun y2 H locs ls eq hy2 hl w => b_X11_isSound_j72 X  HR v1 hv1 (h1 _ eq) (lv_sub hl [0, 1] rfl) w) (fun r H locs pc ls eq hP w dg => HR r H locs pc ls (Option.some.inj (h2 _ eq)).symm hP w dg) FU 0 hq (inL rfl) (lv_sub hl [1, 2, 0] rfl) w
set_option maxRecDepth 100000 in
set_option maxHeartbeats 4000000 in
theorem b_X11_isSound_0 (X : CX p s m args c cX11_isSound 5 RX11 D aC ad sg A H0) {M : Mem} {o : Int} (HR : ∀ (r : Int) (H : Heap) (locs : List Loc) (pc : Nat) (ls : Array Slot), o = r → isZ r → WS D aC ad A H0 M H locs → decode cX11_isSound pc = .ok (.ireturn, 1) → W p l e rm_X11_isSound s m args below meth c H locs 0 0 Q (F0 m pc ls [.int (i2 r)])) (hf : f_X11_isSound M = some o) {H : Heap} {locs : List Loc} {ls : Array Slot} (hl : lv_has ls 5 [(0, .ref (ad 80))]) (w : WS D aC ad A H0 M H locs) : W p l e rm_X11_isSound s m args below meth c H locs 0 0 Q (F0 m 0 ls []) := by
  have hx := X.1.1
  have hb := X.1.2.1
  unfold f_X11_isSound at hf
  refine g_iconst X dX11_isSound_0 ?_
  refine g_istn (v := 0) (lv' := [(1, .int (i2 0)), (0, .ref (ad 80))]) X rfl dX11_isSound_1 rfl hl (by decide) rfl (fun ls hl => ?_)
  refine g_iconst X dX11_isSound_2 ?_
  refine g_istn (v := 0) (lv' := [(2, .int (i2 0)), (1, .int (i2 0)), (0, .ref (ad 80))]) X rfl dX11_isSound_3 rfl hl (by decide) rfl (fun ls hl => ?_)
  obtain ⟨q, hq, h1⟩ := obn_some hf
  exact l_X11_isSound_4 X  (out := q) (fun y1 y2 H locs ls eq hy1 hy2 hl w => b_X11_isSound_j40 X  HR y1 hy1 (by subst eq; exact h1) (lv_sub hl [0, 1] rfl) w)  FU 0 0 hq (inL rfl) (inL rfl) (lv_sub hl [2, 1, 0] rfl) w
set_option maxRecDepth 100000 in
set_option maxHeartbeats 4000000 in
theorem k_X11_isSound {l : Launch} {D : va_G} {aC : Nat → ClassId} {ad : Nat → Nat} {sg : SG} (hi : Inj ad)  {M : Mem} (hM : inM M) {r : Int} (hf : f_X11_isSound M = some r) : MetI l D aC ad sg yX11_isSound cX11_isSound 5 (some .boolean) rm_X11_isSound 0 0 [.ref (ad 80)] M r M := by
  refine MetI.ofZ (by decide +kernel) (nle rfl) hi hM (fun p e s m args below meth c Q H0 ls X hl w hret => ?_)
  exact b_X11_isSound_0 X  (fun r1 H locs pc ls eo hP w dg => by cases eo; exact hret H locs pc ls hP w dg)  hf hl w
set_option maxRecDepth 100000 in
set_option maxHeartbeats 4000000 in
theorem b_X11_lack_s14 (X : CX p s m args c cX11_lack 5 RX11 D aC ad sg A H0) (v2 : Int) (hv2 : inR v2) {M : Mem} {o : (Int × Int) ⊕ (Int × Int)} (HC : ∀ (y1 : Int) (y3 : Int) (H : Heap) (locs : List Loc) (ls : Array Slot), o = .inl (y1, y3) → inR y1 → inR y3 → lv_has ls 5 [(0, .ref (ad 80)), (1, .int (i2 y1)), (2, .int (i2 v2)), (3, .int (i2 y3))] → WS D aC ad A H0 M H locs → W p l e rm_X11_lack s m args below meth c H locs 0 0 Q (F0 m 14 ls [])) (HE : ∀ (y1 : Int) (y3 : Int) (H : Heap) (locs : List Loc) (ls : Array Slot), o = .inr (y1, y3) → inR y1 → inR y3 → lv_has ls 5 [(0, .ref (ad 80)), (1, .int (i2 y1)), (2, .int (i2 v2)), (3, .int (i2 y3))] → WS D aC ad A H0 M H locs → W p l e rm_X11_lack s m args below meth c H locs 0 0 Q (F0 m 70 ls [])) (v1 : Int) (hv1 : inR v1) (v3 : Int) (hv3 : inR v3) (hf : f_X11_lack_s14 v2 M v1 v3 = some o) {H : Heap} {locs : List Loc} {ls : Array Slot} (hl : lv_has ls 5 [(0, .ref (ad 80)), (1, .int (i2 v1)), (2, .int (i2 v2)), (3, .int (i2 v3))]) (w : WS D aC ad A H0 M H locs) : W p l e rm_X11_lack s m args below meth c H locs 0 0 Q (F0 m 14 ls []) := by
  have hx := X.1.1
  have hb := X.1.2.1
  unfold f_X11_lack_s14 at hf
  refine lv_iload_n hx hb dX11_lack_14 rfl (lv_at hl 3 rfl) ?_
  refine lv_aload_n hx hb dX11_lack_15 rfl (lv_at hl 0 rfl) ?_
  refine g_geti X w fg_X11_41 KD_80 FR_80_12 dX11_lack_16 ?_
  refine g_icmp_ge (tgt := 70) X hv3 (w.2.2 _ _) dX11_lack_19 (by decide) (fun cd => ?_) (fun cd => ?_)
  · replace hf := ite_t cd hf
    exact HE v1 v3 _ _ _ (Option.some.inj hf).symm hv1 hv3 hl w
  · replace hf := ite_f cd hf
    refine lv_aload_n hx hb dX11_lack_22 rfl (lv_at hl 0 rfl) ?_
    refine g_getr X w fg_X11_63 KD_80 FR_80_23 dX11_lack_23 ?_
    refine lv_iload_n hx hb dX11_lack_26 rfl (lv_at hl 2 rfl) ?_
    obtain ⟨hg, hf⟩ := gd_some hf
    refine g_iald X w KD_97 hv2 hg dX11_lack_27 ?_
    refine g_bipush X dX11_lack_28 (by decide) ?_
    refine g_icmp_ne (tgt := 70) X (w.2.2 _ _) (inL rfl) dX11_lack_30 (by decide) (fun cd_2 => ?_) (fun cd_2 => ?_)
    · replace hf := ite_f cd_2 hf
      exact HE v1 v3 _ _ _ (Option.some.inj hf).symm hv1 hv3 hl w
    · replace hf := ite_t cd_2 hf
      refine lv_aload_n hx hb dX11_lack_33 rfl (lv_at hl 0 rfl) ?_
      refine g_getr X w fg_X11_66 KD_80 FR_80_24 dX11_lack_34 ?_
      refine lv_iload_n hx hb dX11_lack_37 rfl (lv_at hl 2 rfl) ?_
      obtain ⟨hg_2, hf⟩ := gd_some hf
      refine g_iald X w KD_98 hv2 hg_2 dX11_lack_38 ?_
      refine lv_aload_n hx hb dX11_lack_39 rfl (lv_at hl 0 rfl) ?_
      refine g_iconst X dX11_lack_40 ?_
      refine lv_iload_n hx hb dX11_lack_41 rfl (lv_at hl 2 rfl) ?_
      refine g_imul X dX11_lack_42 ?_
      refine lv_iload_n hx hb dX11_lack_43 rfl (lv_at hl 3 rfl) ?_
      obtain ⟨r, hc, hf⟩ := obn_some hf
      refine g_cvi (As := [.int (i2 (wrap (2 * v2))), .int (i2 v3)]) (rest := [.int (i2 (M 98 v2.toNat))]) X w (k_X11_holdIn X.2.2.1 (wrap (2 * v2)) (inR_wrap _) v3 hv3 w.2.2 hc) lk_X11_332 cl_11 KD_80 ⟨rfl, rfl⟩ ⟨nle rfl, nle rfl⟩ ⟨nle rfl, nle rfl⟩ hl.1 rfl (nle rfl) dX11_lack_44 (fun hr H locs w => ?_)
      refine g_isub X dX11_lack_47 ?_
      obtain ⟨v4, ev4, hf⟩ := lt_some hf
      have hv4 : inR v4 := inR_of ev4 (inR_wrap _)
      refine g_ist (v := v4) (lv' := [(4, .int (i2 v4)), (0, .ref (ad 80)), (1, .int (i2 v1)), (2, .int (i2 v2)), (3, .int (i2 v3))]) X ev4 dX11_lack_48 hl (by decide) rfl (fun ls hl => ?_)
      refine lv_iload_n hx hb dX11_lack_50 rfl (lv_at hl 2 rfl) ?_
      refine lv_iload hx hb dX11_lack_51 (lv_at hl 0 rfl) ?_
      refine g_if_le (tgt := 61) X hv4 dX11_lack_53 (by decide) (fun cd_3 => ?_) (fun cd_3 => ?_)
      · replace hf := ite_t cd_3 hf
        refine g_iconst X dX11_lack_61 ?_
        refine g_iadd X dX11_lack_62 ?_
        obtain ⟨v1_2, ev1_2, hf⟩ := lt_some hf
        have hv1_2 : inR v1_2 := inR_of ev1_2 (inR_wrap _)
        refine g_istn (v := v1_2) (lv' := [(1, .int (i2 v1_2)), (4, .int (i2 v4)), (0, .ref (ad 80)), (2, .int (i2 v2)), (3, .int (i2 v3))]) X ev1_2 dX11_lack_63 rfl hl (by decide) rfl (fun ls hl => ?_)
        obtain ⟨v3_2, ev3_2, hf⟩ := lt_some hf
        have hv3_2 : inR v3_2 := inR_of ev3_2 (inR_wrap _)
        refine lv_iinc (v := i2 v3_2) (lv' := [(3, .int (i2 v3_2)), (1, .int (i2 v1_2)), (4, .int (i2 v4)), (0, .ref (ad 80)), (2, .int (i2 v2))]) hx hb dX11_lack_64 hl (k := 4) rfl (by rw [ev3_2]; exact i2_add _ _) (by decide) rfl (fun ls hl => ?_)
        refine lv_goto (tgt := 14) hx hb dX11_lack_67 (by decide) ?_
        exact HC v1_2 v3_2 _ _ _ (Option.some.inj hf).symm hv1_2 hv3_2 (lv_sub hl [3, 1, 4, 0] rfl) w
      · replace hf := ite_f cd_3 hf
        refine lv_iload hx hb dX11_lack_56 (lv_at hl 0 rfl) ?_
        refine lv_goto (tgt := 62) hx hb dX11_lack_58 (by decide) ?_
        refine g_iadd X dX11_lack_62 ?_
        obtain ⟨v1_3, ev1_3, hf⟩ := lt_some hf
        have hv1_3 : inR v1_3 := inR_of ev1_3 (inR_wrap _)
        refine g_istn (v := v1_3) (lv' := [(1, .int (i2 v1_3)), (4, .int (i2 v4)), (0, .ref (ad 80)), (2, .int (i2 v2)), (3, .int (i2 v3))]) X ev1_3 dX11_lack_63 rfl hl (by decide) rfl (fun ls hl => ?_)
        obtain ⟨v3_3, ev3_3, hf⟩ := lt_some hf
        have hv3_3 : inR v3_3 := inR_of ev3_3 (inR_wrap _)
        refine lv_iinc (v := i2 v3_3) (lv' := [(3, .int (i2 v3_3)), (1, .int (i2 v1_3)), (4, .int (i2 v4)), (0, .ref (ad 80)), (2, .int (i2 v2))]) hx hb dX11_lack_64 hl (k := 4) rfl (by rw [ev3_3]; exact i2_add _ _) (by decide) rfl (fun ls hl => ?_)
        refine lv_goto (tgt := 14) hx hb dX11_lack_67 (by decide) ?_
        exact HC v1_3 v3_3 _ _ _ (Option.some.inj hf).symm hv1_3 hv3_3 (lv_sub hl [3, 1, 4, 0] rfl) w
set_option maxRecDepth 100000 in
set_option maxHeartbeats 4000000 in
theorem l_X11_lack_14 (X : CX p s m args c cX11_lack 5 RX11 D aC ad sg A H0) (v2 : Int) (hv2 : inR v2) {M : Mem} {out : Int × Int} (HE : ∀ (y1 : Int) (y3 : Int) (H : Heap) (locs : List Loc) (ls : Array Slot), out = (y1, y3) → inR y1 → inR y3 → lv_has ls 5 [(0, .ref (ad 80)), (1, .int (i2 y1)), (2, .int (i2 v2)), (3, .int (i2 y3))] → WS D aC ad A H0 M H locs → W p l e rm_X11_lack s m args below meth c H locs 0 0 Q (F0 m 70 ls [])) : ∀ (n : Nat) (v1 : Int) (v3 : Int), whl (fun s => f_X11_lack_s14 v2 M s.1 s.2) n (v1, v3) = some out → inR v1 → inR v3 → ∀ {H : Heap} {locs : List Loc} {ls : Array Slot}, lv_has ls 5 [(0, .ref (ad 80)), (1, .int (i2 v1)), (2, .int (i2 v2)), (3, .int (i2 v3))] → WS D aC ad A H0 M H locs → W p l e rm_X11_lack s m args below meth c H locs 0 0 Q (F0 m 14 ls []) := by
  intro n
  induction n with
  | zero => intro v1 v3 hf; exact (whl_zero hf).elim
  | succ n ih =>
    intro v1 v3 hf hv1 hv3 H locs ls hl w
    obtain ⟨o, hf, hk1, hk2⟩ := whl_step hf
    exact b_X11_lack_s14 X v2 hv2 (fun y1 y3 H locs ls eo hy1 hy3 hl w => ih y1 y3 (hk1 _ eo) hy1 hy3 hl w) (fun y1 y3 H locs ls eo hy1 hy3 hl w => HE y1 y3 H locs ls (hk2 _ eo).symm hy1 hy3 hl w) v1 hv1 v3 hv3 hf hl w
set_option maxRecDepth 100000 in
set_option maxHeartbeats 4000000 in
theorem b_X11_lack_j70k4 (X : CX p s m args c cX11_lack 5 RX11 D aC ad sg A H0) {M : Mem} {o : (Int × Int) ⊕ (Int × Int)} (HC : ∀ (y1 : Int) (y2 : Int) (H : Heap) (locs : List Loc) (ls : Array Slot), o = .inl (y1, y2) → inR y1 → inR y2 → lv_has ls 5 [(0, .ref (ad 80)), (1, .int (i2 y1)), (2, .int (i2 y2))] → WS D aC ad A H0 M H locs → W p l e rm_X11_lack s m args below meth c H locs 0 0 Q (F0 m 4 ls [])) (HE : ∀ (y1 : Int) (y2 : Int) (H : Heap) (locs : List Loc) (ls : Array Slot), o = .inr (y1, y2) → inR y1 → inR y2 → lv_has ls 5 [(0, .ref (ad 80)), (1, .int (i2 y1)), (2, .int (i2 y2))] → WS D aC ad A H0 M H locs → W p l e rm_X11_lack s m args below meth c H locs 0 0 Q (F0 m 76 ls [])) (v1 : Int) (hv1 : inR v1) (v2 : Int) (hv2 : inR v2) (hf : f_X11_lack_j70k4 v1 v2 M = some o) {H : Heap} {locs : List Loc} {ls : Array Slot} (hl : lv_has ls 5 [(0, .ref (ad 80)), (1, .int (i2 v1)), (2, .int (i2 v2))]) (w : WS D aC ad A H0 M H locs) : W p l e rm_X11_lack s m args below meth c H locs 0 0 Q (F0 m 70 ls []) := by
  have hx := X.1.1
  have hb := X.1.2.1
  unfold f_X11_lack_j70k4 at hf
  obtain ⟨v2_2, ev2_2, hf⟩ := lt_some hf
  have hv2_2 : inR v2_2 := inR_of ev2_2 (inR_wrap _)
  refine lv_iinc (v := i2 v2_2) (lv' := [(2, .int (i2 v2_2)), (0, .ref (ad 80)), (1, .int (i2 v1))]) hx hb dX11_lack_70 hl (k := 2) rfl (by rw [ev2_2]; exact i2_add _ _) (by decide) rfl (fun ls hl => ?_)
  refine lv_goto (tgt := 4) hx hb dX11_lack_73 (by decide) ?_
  exact HC v1 v2_2 _ _ _ (Option.some.inj hf).symm hv1 hv2_2 (lv_sub hl [1, 2, 0] rfl) w
set_option maxRecDepth 100000 in
set_option maxHeartbeats 4000000 in
theorem b_X11_lack_s4 (X : CX p s m args c cX11_lack 5 RX11 D aC ad sg A H0) {M : Mem} {o : (Int × Int) ⊕ (Int × Int)} (HC : ∀ (y1 : Int) (y2 : Int) (H : Heap) (locs : List Loc) (ls : Array Slot), o = .inl (y1, y2) → inR y1 → inR y2 → lv_has ls 5 [(0, .ref (ad 80)), (1, .int (i2 y1)), (2, .int (i2 y2))] → WS D aC ad A H0 M H locs → W p l e rm_X11_lack s m args below meth c H locs 0 0 Q (F0 m 4 ls [])) (HE : ∀ (y1 : Int) (y2 : Int) (H : Heap) (locs : List Loc) (ls : Array Slot), o = .inr (y1, y2) → inR y1 → inR y2 → lv_has ls 5 [(0, .ref (ad 80)), (1, .int (i2 y1)), (2, .int (i2 y2))] → WS D aC ad A H0 M H locs → W p l e rm_X11_lack s m args below meth c H locs 0 0 Q (F0 m 76 ls [])) (v1 : Int) (hv1 : inR v1) (v2 : Int) (hv2 : inR v2) (hf : f_X11_lack_s4 M v1 v2 = some o) {H : Heap} {locs : List Loc} {ls : Array Slot} (hl : lv_has ls 5 [(0, .ref (ad 80)), (1, .int (i2 v1)), (2, .int (i2 v2))]) (w : WS D aC ad A H0 M H locs) : W p l e rm_X11_lack s m args below meth c H locs 0 0 Q (F0 m 4 ls []) := by
  have hx := X.1.1
  have hb := X.1.2.1
  unfold f_X11_lack_s4 at hf
  refine lv_iload_n hx hb dX11_lack_4 rfl (lv_at hl 2 rfl) ?_
  refine lv_aload_n hx hb dX11_lack_5 rfl (lv_at hl 0 rfl) ?_
  refine g_geti X w fg_X11_307 KD_80 FR_80_21 dX11_lack_6 ?_
  refine g_icmp_ge (tgt := 76) X hv2 (w.2.2 _ _) dX11_lack_9 (by decide) (fun cd => ?_) (fun cd => ?_)
  · replace hf := ite_t cd hf
    exact HE v1 v2 _ _ _ (Option.some.inj hf).symm hv1 hv2 hl w
  · replace hf := ite_f cd hf
    refine g_iconst X dX11_lack_12 ?_
    refine g_istn (v := 0) (lv' := [(3, .int (i2 0)), (0, .ref (ad 80)), (1, .int (i2 v1)), (2, .int (i2 v2))]) X rfl dX11_lack_13 rfl hl (by decide) rfl (fun ls hl => ?_)
    obtain ⟨q, hq, h1⟩ := obn_some hf
    exact l_X11_lack_14 X v2 hv2 (out := q) (fun y1 y3 H locs ls eq hy1 hy3 hl w => b_X11_lack_j70k4 X  HC HE y1 hy1 v2 hv2 (by subst eq; exact h1) (lv_sub hl [0, 1, 2] rfl) w)  FU v1 0 hq hv1 (inL rfl) (lv_sub hl [1, 2, 3, 0] rfl) w
set_option maxRecDepth 100000 in
set_option maxHeartbeats 4000000 in
theorem l_X11_lack_4 (X : CX p s m args c cX11_lack 5 RX11 D aC ad sg A H0) {M : Mem} {out : Int × Int} (HE : ∀ (y1 : Int) (y2 : Int) (H : Heap) (locs : List Loc) (ls : Array Slot), out = (y1, y2) → inR y1 → inR y2 → lv_has ls 5 [(0, .ref (ad 80)), (1, .int (i2 y1)), (2, .int (i2 y2))] → WS D aC ad A H0 M H locs → W p l e rm_X11_lack s m args below meth c H locs 0 0 Q (F0 m 76 ls [])) : ∀ (n : Nat) (v1 : Int) (v2 : Int), whl (fun s => f_X11_lack_s4 M s.1 s.2) n (v1, v2) = some out → inR v1 → inR v2 → ∀ {H : Heap} {locs : List Loc} {ls : Array Slot}, lv_has ls 5 [(0, .ref (ad 80)), (1, .int (i2 v1)), (2, .int (i2 v2))] → WS D aC ad A H0 M H locs → W p l e rm_X11_lack s m args below meth c H locs 0 0 Q (F0 m 4 ls []) := by
  intro n
  induction n with
  | zero => intro v1 v2 hf; exact (whl_zero hf).elim
  | succ n ih =>
    intro v1 v2 hf hv1 hv2 H locs ls hl w
    obtain ⟨o, hf, hk1, hk2⟩ := whl_step hf
    exact b_X11_lack_s4 X  (fun y1 y2 H locs ls eo hy1 hy2 hl w => ih y1 y2 (hk1 _ eo) hy1 hy2 hl w) (fun y1 y2 H locs ls eo hy1 hy2 hl w => HE y1 y2 H locs ls (hk2 _ eo).symm hy1 hy2 hl w) v1 hv1 v2 hv2 hf hl w
set_option maxRecDepth 100000 in
set_option maxHeartbeats 4000000 in
theorem b_X11_lack_j76 (X : CX p s m args c cX11_lack 5 RX11 D aC ad sg A H0) {M : Mem} {o : Int} (HR : ∀ (r : Int) (H : Heap) (locs : List Loc) (pc : Nat) (ls : Array Slot), o = r → inR r → WS D aC ad A H0 M H locs → decode cX11_lack pc = .ok (.ireturn, 1) → W p l e rm_X11_lack s m args below meth c H locs 0 0 Q (F0 m pc ls [.int (i2 r)])) (v1 : Int) (hv1 : inR v1) (hf : f_X11_lack_j76 v1 M = some o) {H : Heap} {locs : List Loc} {ls : Array Slot} (hl : lv_has ls 5 [(1, .int (i2 v1))]) (w : WS D aC ad A H0 M H locs) : W p l e rm_X11_lack s m args below meth c H locs 0 0 Q (F0 m 76 ls []) := by
  have hx := X.1.1
  have hb := X.1.2.1
  unfold f_X11_lack_j76 at hf
  refine lv_iload_n hx hb dX11_lack_76 rfl (lv_at hl 0 rfl) ?_
  exact HR v1 _ _ _ _ (Option.some.inj hf).symm hv1 w dX11_lack_77
set_option maxRecDepth 100000 in
set_option maxHeartbeats 4000000 in
theorem b_X11_lack_0 (X : CX p s m args c cX11_lack 5 RX11 D aC ad sg A H0) {M : Mem} {o : Int} (HR : ∀ (r : Int) (H : Heap) (locs : List Loc) (pc : Nat) (ls : Array Slot), o = r → inR r → WS D aC ad A H0 M H locs → decode cX11_lack pc = .ok (.ireturn, 1) → W p l e rm_X11_lack s m args below meth c H locs 0 0 Q (F0 m pc ls [.int (i2 r)])) (hf : f_X11_lack M = some o) {H : Heap} {locs : List Loc} {ls : Array Slot} (hl : lv_has ls 5 [(0, .ref (ad 80))]) (w : WS D aC ad A H0 M H locs) : W p l e rm_X11_lack s m args below meth c H locs 0 0 Q (F0 m 0 ls []) := by
  have hx := X.1.1
  have hb := X.1.2.1
  unfold f_X11_lack at hf
  refine g_iconst X dX11_lack_0 ?_
  refine g_istn (v := 0) (lv' := [(1, .int (i2 0)), (0, .ref (ad 80))]) X rfl dX11_lack_1 rfl hl (by decide) rfl (fun ls hl => ?_)
  refine g_iconst X dX11_lack_2 ?_
  refine g_istn (v := 0) (lv' := [(2, .int (i2 0)), (1, .int (i2 0)), (0, .ref (ad 80))]) X rfl dX11_lack_3 rfl hl (by decide) rfl (fun ls hl => ?_)
  obtain ⟨q, hq, h1⟩ := obn_some hf
  exact l_X11_lack_4 X  (out := q) (fun y1 y2 H locs ls eq hy1 hy2 hl w => b_X11_lack_j76 X  HR y1 hy1 (by subst eq; exact h1) (lv_sub hl [1] rfl) w)  FU 0 0 hq (inL rfl) (inL rfl) (lv_sub hl [2, 1, 0] rfl) w
set_option maxRecDepth 100000 in
set_option maxHeartbeats 4000000 in
theorem k_X11_lack {l : Launch} {D : va_G} {aC : Nat → ClassId} {ad : Nat → Nat} {sg : SG} (hi : Inj ad)  {M : Mem} (hM : inM M) {r : Int} (hf : f_X11_lack M = some r) : MetI l D aC ad sg yX11_lack cX11_lack 5 (some .int) rm_X11_lack 0 0 [.ref (ad 80)] M r M := by
  refine MetI.ofI (by decide +kernel) (nle rfl) hi hM (fun p e s m args below meth c Q H0 ls X hl w hret => ?_)
  exact b_X11_lack_0 X  (fun r1 H locs pc ls eo hP w dg => by cases eo; exact hret H locs pc ls hP w dg)  hf hl w
set_option maxRecDepth 100000 in
set_option maxHeartbeats 4000000 in
theorem b_X11_servedIn_s2 (X : CX p s m args c cX11_servedIn 4 RX11 D aC ad sg A H0) (v1 : Int) (hv1 : inR v1) {M : Mem} {o : (Int) ⊕ ((Int) ⊕ (Int))} (HC : ∀ (y2 : Int) (H : Heap) (locs : List Loc) (ls : Array Slot), o = .inl y2 → inR y2 → lv_has ls 4 [(0, .ref (ad 80)), (1, .int (i2 v1)), (2, .int (i2 y2))] → WS D aC ad A H0 M H locs → W p l e rm_X11_servedIn s m args below meth c H locs 0 0 Q (F0 m 2 ls [])) (HE : ∀ (y2 : Int) (H : Heap) (locs : List Loc) (ls : Array Slot), o = .inr (.inl y2) → inR y2 → lv_has ls 4 [(0, .ref (ad 80)), (1, .int (i2 v1)), (2, .int (i2 y2))] → WS D aC ad A H0 M H locs → W p l e rm_X11_servedIn s m args below meth c H locs 0 0 Q (F0 m 46 ls [])) (HR : ∀ (r : Int) (H : Heap) (locs : List Loc) (pc : Nat) (ls : Array Slot), o = .inr (.inr r) → inR r → WS D aC ad A H0 M H locs → decode cX11_servedIn pc = .ok (.ireturn, 1) → W p l e rm_X11_servedIn s m args below meth c H locs 0 0 Q (F0 m pc ls [.int (i2 r)])) (v2 : Int) (hv2 : inR v2) (hf : f_X11_servedIn_s2 v1 M v2 = some o) {H : Heap} {locs : List Loc} {ls : Array Slot} (hl : lv_has ls 4 [(0, .ref (ad 80)), (1, .int (i2 v1)), (2, .int (i2 v2))]) (w : WS D aC ad A H0 M H locs) : W p l e rm_X11_servedIn s m args below meth c H locs 0 0 Q (F0 m 2 ls []) := by
  have hx := X.1.1
  have hb := X.1.2.1
  unfold f_X11_servedIn_s2 at hf
  refine lv_iload_n hx hb dX11_servedIn_2 rfl (lv_at hl 2 rfl) ?_
  refine g_iconst X dX11_servedIn_3 ?_
  refine g_icmp_ge (tgt := 46) X hv2 (inL rfl) dX11_servedIn_4 (by decide) (fun cd => ?_) (fun cd => ?_)
  · replace hf := ite_t cd hf
    exact HE v2 _ _ _ (Option.some.inj hf).symm hv2 hl w
  · replace hf := ite_f cd hf
    refine lv_aload_n hx hb dX11_servedIn_7 rfl (lv_at hl 0 rfl) ?_
    refine g_getr X w fg_X11_25 KD_80 FR_80_7 dX11_servedIn_8 ?_
    refine g_iconst X dX11_servedIn_11 ?_
    refine lv_iload_n hx hb dX11_servedIn_12 rfl (lv_at hl 1 rfl) ?_
    refine g_imul X dX11_servedIn_13 ?_
    refine lv_iload_n hx hb dX11_servedIn_14 rfl (lv_at hl 2 rfl) ?_
    refine g_iadd X dX11_servedIn_15 ?_
    obtain ⟨hg, hf⟩ := gd_some hf
    refine g_iald X w KD_86 (inR_wrap _) hg dX11_servedIn_16 ?_
    obtain ⟨v3, ev3, hf⟩ := lt_some hf
    have hv3 : inR v3 := inR_of ev3 (w.2.2 _ _)
    refine g_istn (v := v3) (lv' := [(3, .int (i2 v3)), (0, .ref (ad 80)), (1, .int (i2 v1)), (2, .int (i2 v2))]) X ev3 dX11_servedIn_17 rfl hl (by decide) rfl (fun ls hl => ?_)
    refine lv_iload_n hx hb dX11_servedIn_18 rfl (lv_at hl 0 rfl) ?_
    refine g_iconst X dX11_servedIn_19 ?_
    refine g_icmp_eq (tgt := 40) X hv3 (inL rfl) dX11_servedIn_20 (by decide) (fun cd_2 => ?_) (fun cd_2 => ?_)
    · replace hf := ite_t cd_2 hf
      obtain ⟨v2_2, ev2_2, hf⟩ := lt_some hf
      have hv2_2 : inR v2_2 := inR_of ev2_2 (inR_wrap _)
      refine lv_iinc (v := i2 v2_2) (lv' := [(2, .int (i2 v2_2)), (3, .int (i2 v3)), (0, .ref (ad 80)), (1, .int (i2 v1))]) hx hb dX11_servedIn_40 hl (k := 3) rfl (by rw [ev2_2]; exact i2_add _ _) (by decide) rfl (fun ls hl => ?_)
      refine lv_goto (tgt := 2) hx hb dX11_servedIn_43 (by decide) ?_
      exact HC v2_2 _ _ _ (Option.some.inj hf).symm hv2_2 (lv_sub hl [2, 3, 0] rfl) w
    · replace hf := ite_f cd_2 hf
      refine lv_aload_n hx hb dX11_servedIn_23 rfl (lv_at hl 1 rfl) ?_
      refine g_getr X w fg_X11_100 KD_80 FR_80_41 dX11_servedIn_24 ?_
      refine lv_iload_n hx hb dX11_servedIn_27 rfl (lv_at hl 0 rfl) ?_
      obtain ⟨hg_2, hf⟩ := gd_some hf
      refine g_iald X w KD_108 hv3 hg_2 dX11_servedIn_28 ?_
      refine lv_aload_n hx hb dX11_servedIn_29 rfl (lv_at hl 1 rfl) ?_
      refine g_getr X w fg_X11_100 KD_80 FR_80_41 dX11_servedIn_30 ?_
      refine lv_iload_n hx hb dX11_servedIn_33 rfl (lv_at hl 2 rfl) ?_
      obtain ⟨hg_3, hf⟩ := gd_some hf
      refine g_iald X w KD_108 hv1 hg_3 dX11_servedIn_34 ?_
      refine g_icmp_ne (tgt := 40) X (w.2.2 _ _) (w.2.2 _ _) dX11_servedIn_35 (by decide) (fun cd_3 => ?_) (fun cd_3 => ?_)
      · replace hf := ite_f cd_3 hf
        obtain ⟨v2_3, ev2_3, hf⟩ := lt_some hf
        have hv2_3 : inR v2_3 := inR_of ev2_3 (inR_wrap _)
        refine lv_iinc (v := i2 v2_3) (lv' := [(2, .int (i2 v2_3)), (3, .int (i2 v3)), (0, .ref (ad 80)), (1, .int (i2 v1))]) hx hb dX11_servedIn_40 hl (k := 3) rfl (by rw [ev2_3]; exact i2_add _ _) (by decide) rfl (fun ls hl => ?_)
        refine lv_goto (tgt := 2) hx hb dX11_servedIn_43 (by decide) ?_
        exact HC v2_3 _ _ _ (Option.some.inj hf).symm hv2_3 (lv_sub hl [2, 3, 0] rfl) w
      · replace hf := ite_t cd_3 hf
        refine lv_iload_n hx hb dX11_servedIn_38 rfl (lv_at hl 3 rfl) ?_
        exact HR v2 _ _ _ _ (Option.some.inj hf).symm hv2 w dX11_servedIn_39
set_option maxRecDepth 100000 in
set_option maxHeartbeats 4000000 in
theorem l_X11_servedIn_2 (X : CX p s m args c cX11_servedIn 4 RX11 D aC ad sg A H0) (v1 : Int) (hv1 : inR v1) {M : Mem} {out : (Int) ⊕ (Int)} (HE : ∀ (y2 : Int) (H : Heap) (locs : List Loc) (ls : Array Slot), out = .inl y2 → inR y2 → lv_has ls 4 [(0, .ref (ad 80)), (1, .int (i2 v1)), (2, .int (i2 y2))] → WS D aC ad A H0 M H locs → W p l e rm_X11_servedIn s m args below meth c H locs 0 0 Q (F0 m 46 ls [])) (HR : ∀ (r : Int) (H : Heap) (locs : List Loc) (pc : Nat) (ls : Array Slot), out = .inr r → inR r → WS D aC ad A H0 M H locs → decode cX11_servedIn pc = .ok (.ireturn, 1) → W p l e rm_X11_servedIn s m args below meth c H locs 0 0 Q (F0 m pc ls [.int (i2 r)])) : ∀ (n : Nat) (v2 : Int), whl (fun s => f_X11_servedIn_s2 v1 M s) n v2 = some out → inR v2 → ∀ {H : Heap} {locs : List Loc} {ls : Array Slot}, lv_has ls 4 [(0, .ref (ad 80)), (1, .int (i2 v1)), (2, .int (i2 v2))] → WS D aC ad A H0 M H locs → W p l e rm_X11_servedIn s m args below meth c H locs 0 0 Q (F0 m 2 ls []) := by
  intro n
  induction n with
  | zero => intro v2 hf; exact (whl_zero hf).elim
  | succ n ih =>
    intro v2 hf hv2 H locs ls hl w
    obtain ⟨o, hf, hk1, hk2⟩ := whl_step hf
    exact b_X11_servedIn_s2 X v1 hv1 (fun y2 H locs ls eo hy2 hl w => ih y2 (hk1 _ eo) hy2 hl w) (fun y2 H locs ls eo hy2 hl w => HE y2 H locs ls (hk2 _ eo).symm hy2 hl w) (fun r H locs pc ls eo hP w dg => HR r H locs pc ls (hk2 _ eo).symm hP w dg) v2 hv2 hf hl w
set_option maxRecDepth 100000 in
set_option maxHeartbeats 4000000 in
theorem b_X11_servedIn_j46 (X : CX p s m args c cX11_servedIn 4 RX11 D aC ad sg A H0) {M : Mem} {o : Int} (HR : ∀ (r : Int) (H : Heap) (locs : List Loc) (pc : Nat) (ls : Array Slot), o = r → inR r → WS D aC ad A H0 M H locs → decode cX11_servedIn pc = .ok (.ireturn, 1) → W p l e rm_X11_servedIn s m args below meth c H locs 0 0 Q (F0 m pc ls [.int (i2 r)])) (hf : f_X11_servedIn_j46 M = some o) {H : Heap} {locs : List Loc} {ls : Array Slot} (hl : lv_has ls 4 []) (w : WS D aC ad A H0 M H locs) : W p l e rm_X11_servedIn s m args below meth c H locs 0 0 Q (F0 m 46 ls []) := by
  have hx := X.1.1
  have hb := X.1.2.1
  unfold f_X11_servedIn_j46 at hf
  refine g_iconst X dX11_servedIn_46 ?_
  exact HR 3 _ _ _ _ (Option.some.inj hf).symm (inL rfl) w dX11_servedIn_47
set_option maxRecDepth 100000 in
set_option maxHeartbeats 4000000 in
theorem b_X11_servedIn_0 (X : CX p s m args c cX11_servedIn 4 RX11 D aC ad sg A H0) {M : Mem} {o : Int} (HR : ∀ (r : Int) (H : Heap) (locs : List Loc) (pc : Nat) (ls : Array Slot), o = r → inR r → WS D aC ad A H0 M H locs → decode cX11_servedIn pc = .ok (.ireturn, 1) → W p l e rm_X11_servedIn s m args below meth c H locs 0 0 Q (F0 m pc ls [.int (i2 r)])) (p1 : Int) (hp1 : inR p1) (hf : f_X11_servedIn p1 M = some o) {H : Heap} {locs : List Loc} {ls : Array Slot} (hl : lv_has ls 4 [(0, .ref (ad 80)), (1, .int (i2 p1))]) (w : WS D aC ad A H0 M H locs) : W p l e rm_X11_servedIn s m args below meth c H locs 0 0 Q (F0 m 0 ls []) := by
  have hx := X.1.1
  have hb := X.1.2.1
  unfold f_X11_servedIn at hf
  refine g_iconst X dX11_servedIn_0 ?_
  refine g_istn (v := 0) (lv' := [(2, .int (i2 0)), (0, .ref (ad 80)), (1, .int (i2 p1))]) X rfl dX11_servedIn_1 rfl hl (by decide) rfl (fun ls hl => ?_)
  obtain ⟨q, hq, h1, h2⟩ := lpr_some hf
  exact l_X11_servedIn_2 X p1 hp1 (out := q) (fun y2 H locs ls eq hy2 hl w => b_X11_servedIn_j46 X  HR  (h1 _ eq) (lv_sub hl [] rfl) w) (fun r H locs pc ls eq hP w dg => HR r H locs pc ls (Option.some.inj (h2 _ eq)).symm hP w dg) FU 0 hq (inL rfl) (lv_sub hl [1, 2, 0] rfl) w
set_option maxRecDepth 100000 in
set_option maxHeartbeats 4000000 in
theorem k_X11_servedIn {l : Launch} {D : va_G} {aC : Nat → ClassId} {ad : Nat → Nat} {sg : SG} (hi : Inj ad) (p1 : Int) (hp1 : inR p1) {M : Mem} (hM : inM M) {r : Int} (hf : f_X11_servedIn p1 M = some r) : MetI l D aC ad sg yX11_servedIn cX11_servedIn 4 (some .int) rm_X11_servedIn 0 0 [.ref (ad 80), .int (i2 p1)] M r M := by
  refine MetI.ofI (by decide +kernel) (nle rfl) hi hM (fun p e s m args below meth c Q H0 ls X hl w hret => ?_)
  exact b_X11_servedIn_0 X  (fun r1 H locs pc ls eo hP w dg => by cases eo; exact hret H locs pc ls hP w dg) p1 hp1 hf hl w
set_option maxRecDepth 100000 in
set_option maxHeartbeats 4000000 in
theorem b_X11_harmOf_s87 (X : CX p s m args c cX11_harmOf 8 RX11 D aC ad sg A H0) (v1 : Int) (hv1 : inR v1) (v2 : Int) (hv2 : inR v2) (v3 : Int) (hv3 : inR v3) (v5 : Int) (hv5 : inR v5) {M : Mem} {o : (Int × Int) ⊕ (Int × Int)} (HC : ∀ (y6 : Int) (y7 : Int) (H : Heap) (locs : List Loc) (ls : Array Slot), o = .inl (y6, y7) → inR y6 → inR y7 → lv_has ls 8 [(0, .ref (ad 80)), (1, .int (i2 v1)), (2, .int (i2 v2)), (3, .int (i2 v3)), (5, .int (i2 v5)), (6, .int (i2 y6)), (7, .int (i2 y7))] → WS D aC ad A H0 M H locs → W p l e rm_X11_harmOf s m args below meth c H locs 0 0 Q (F0 m 87 ls [])) (HE : ∀ (y6 : Int) (y7 : Int) (H : Heap) (locs : List Loc) (ls : Array Slot), o = .inr (y6, y7) → inR y6 → inR y7 → lv_has ls 8 [(0, .ref (ad 80)), (1, .int (i2 v1)), (2, .int (i2 v2)), (3, .int (i2 v3)), (5, .int (i2 v5)), (6, .int (i2 y6)), (7, .int (i2 y7))] → WS D aC ad A H0 M H locs → W p l e rm_X11_harmOf s m args below meth c H locs 0 0 Q (F0 m 150 ls [])) (v6 : Int) (hv6 : inR v6) (v7 : Int) (hv7 : inR v7) (hf : f_X11_harmOf_s87 v1 v2 v3 v5 M v6 v7 = some o) {H : Heap} {locs : List Loc} {ls : Array Slot} (hl : lv_has ls 8 [(0, .ref (ad 80)), (1, .int (i2 v1)), (2, .int (i2 v2)), (3, .int (i2 v3)), (5, .int (i2 v5)), (6, .int (i2 v6)), (7, .int (i2 v7))]) (w : WS D aC ad A H0 M H locs) : W p l e rm_X11_harmOf s m args below meth c H locs 0 0 Q (F0 m 87 ls []) := by
  have hx := X.1.1
  have hb := X.1.2.1
  unfold f_X11_harmOf_s87 at hf
  refine lv_iload hx hb dX11_harmOf_87 (lv_at hl 6 rfl) ?_
  refine lv_aload_n hx hb dX11_harmOf_89 rfl (lv_at hl 0 rfl) ?_
  refine g_geti X w fg_X11_142 KD_80 FR_80_1 dX11_harmOf_90 ?_
  refine g_icmp_ge (tgt := 150) X hv7 (w.2.2 _ _) dX11_harmOf_93 (by decide) (fun cd => ?_) (fun cd => ?_)
  · replace hf := ite_t cd hf
    exact HE v6 v7 _ _ _ (Option.some.inj hf).symm hv6 hv7 hl w
  · replace hf := ite_f cd hf
    refine lv_aload_n hx hb dX11_harmOf_96 rfl (lv_at hl 0 rfl) ?_
    refine g_getr X w fg_X11_63 KD_80 FR_80_23 dX11_harmOf_97 ?_
    refine lv_iload_n hx hb dX11_harmOf_100 rfl (lv_at hl 1 rfl) ?_
    obtain ⟨hg, hf⟩ := gd_some hf
    refine g_iald X w KD_97 hv1 hg dX11_harmOf_101 ?_
    refine g_iconst X dX11_harmOf_102 ?_
    refine g_icmp_ne (tgt := 150) X (w.2.2 _ _) (inL rfl) dX11_harmOf_103 (by decide) (fun cd_2 => ?_) (fun cd_2 => ?_)
    · replace hf := ite_f cd_2 hf
      exact HE v6 v7 _ _ _ (Option.some.inj hf).symm hv6 hv7 hl w
    · replace hf := ite_t cd_2 hf
      refine lv_iload hx hb dX11_harmOf_106 (lv_at hl 5 rfl) ?_
      refine lv_aload_n hx hb dX11_harmOf_108 rfl (lv_at hl 0 rfl) ?_
      refine g_getr X w fg_X11_100 KD_80 FR_80_41 dX11_harmOf_109 ?_
      refine lv_iload hx hb dX11_harmOf_112 (lv_at hl 6 rfl) ?_
      obtain ⟨hg_2, hf⟩ := gd_some hf
      refine g_iald X w KD_108 hv7 hg_2 dX11_harmOf_114 ?_
      refine lv_iload hx hb dX11_harmOf_115 (lv_at hl 4 rfl) ?_
      refine g_icmp_ne (tgt := 140) X (w.2.2 _ _) hv5 dX11_harmOf_117 (by decide) (fun cd_3 => ?_) (fun cd_3 => ?_)
      · replace hf := ite_f cd_3 hf
        refine g_iconst X dX11_harmOf_140 ?_
        refine g_iadd X dX11_harmOf_141 ?_
        obtain ⟨v6_2, ev6_2, hf⟩ := lt_some hf
        have hv6_2 : inR v6_2 := inR_of ev6_2 (inR_wrap _)
        refine g_ist (v := v6_2) (lv' := [(6, .int (i2 v6_2)), (0, .ref (ad 80)), (1, .int (i2 v1)), (2, .int (i2 v2)), (3, .int (i2 v3)), (5, .int (i2 v5)), (7, .int (i2 v7))]) X ev6_2 dX11_harmOf_142 hl (by decide) rfl (fun ls hl => ?_)
        obtain ⟨v7_2, ev7_2, hf⟩ := lt_some hf
        have hv7_2 : inR v7_2 := inR_of ev7_2 (inR_wrap _)
        refine lv_iinc (v := i2 v7_2) (lv' := [(7, .int (i2 v7_2)), (6, .int (i2 v6_2)), (0, .ref (ad 80)), (1, .int (i2 v1)), (2, .int (i2 v2)), (3, .int (i2 v3)), (5, .int (i2 v5))]) hx hb dX11_harmOf_144 hl (k := 6) rfl (by rw [ev7_2]; exact i2_add _ _) (by decide) rfl (fun ls hl => ?_)
        refine lv_goto (tgt := 87) hx hb dX11_harmOf_147 (by decide) ?_
        exact HC v6_2 v7_2 _ _ _ (Option.some.inj hf).symm hv6_2 hv7_2 (lv_sub hl [2, 3, 4, 5, 6, 1, 0] rfl) w
      · replace hf := ite_t cd_3 hf
        refine lv_aload_n hx hb dX11_harmOf_120 rfl (lv_at hl 0 rfl) ?_
        refine g_getr X w fg_X11_94 KD_80 FR_80_39 dX11_harmOf_121 ?_
        refine g_bipush X dX11_harmOf_124 (by decide) ?_
        refine lv_iload hx hb dX11_harmOf_126 (lv_at hl 6 rfl) ?_
        refine g_imul X dX11_harmOf_128 ?_
        refine lv_aload_n hx hb dX11_harmOf_129 rfl (lv_at hl 0 rfl) ?_
        refine g_getr X w fg_X11_69 KD_80 FR_80_25 dX11_harmOf_130 ?_
        refine lv_iload_n hx hb dX11_harmOf_133 rfl (lv_at hl 1 rfl) ?_
        obtain ⟨hg_3, hf⟩ := gd_some hf
        refine g_iald X w KD_99 hv1 hg_3 dX11_harmOf_134 ?_
        refine g_iadd X dX11_harmOf_135 ?_
        obtain ⟨hg_4, hf⟩ := gd_some hf
        refine g_iald X w KD_106 (inR_wrap _) hg_4 dX11_harmOf_136 ?_
        refine lv_goto (tgt := 141) hx hb dX11_harmOf_137 (by decide) ?_
        refine g_iadd X dX11_harmOf_141 ?_
        obtain ⟨v6_3, ev6_3, hf⟩ := lt_some hf
        have hv6_3 : inR v6_3 := inR_of ev6_3 (inR_wrap _)
        refine g_ist (v := v6_3) (lv' := [(6, .int (i2 v6_3)), (0, .ref (ad 80)), (1, .int (i2 v1)), (2, .int (i2 v2)), (3, .int (i2 v3)), (5, .int (i2 v5)), (7, .int (i2 v7))]) X ev6_3 dX11_harmOf_142 hl (by decide) rfl (fun ls hl => ?_)
        obtain ⟨v7_3, ev7_3, hf⟩ := lt_some hf
        have hv7_3 : inR v7_3 := inR_of ev7_3 (inR_wrap _)
        refine lv_iinc (v := i2 v7_3) (lv' := [(7, .int (i2 v7_3)), (6, .int (i2 v6_3)), (0, .ref (ad 80)), (1, .int (i2 v1)), (2, .int (i2 v2)), (3, .int (i2 v3)), (5, .int (i2 v5))]) hx hb dX11_harmOf_144 hl (k := 6) rfl (by rw [ev7_3]; exact i2_add _ _) (by decide) rfl (fun ls hl => ?_)
        refine lv_goto (tgt := 87) hx hb dX11_harmOf_147 (by decide) ?_
        exact HC v6_3 v7_3 _ _ _ (Option.some.inj hf).symm hv6_3 hv7_3 (lv_sub hl [2, 3, 4, 5, 6, 1, 0] rfl) w
set_option maxRecDepth 100000 in
set_option maxHeartbeats 4000000 in
theorem l_X11_harmOf_87 (X : CX p s m args c cX11_harmOf 8 RX11 D aC ad sg A H0) (v1 : Int) (hv1 : inR v1) (v2 : Int) (hv2 : inR v2) (v3 : Int) (hv3 : inR v3) (v5 : Int) (hv5 : inR v5) {M : Mem} {out : Int × Int} (HE : ∀ (y6 : Int) (y7 : Int) (H : Heap) (locs : List Loc) (ls : Array Slot), out = (y6, y7) → inR y6 → inR y7 → lv_has ls 8 [(0, .ref (ad 80)), (1, .int (i2 v1)), (2, .int (i2 v2)), (3, .int (i2 v3)), (5, .int (i2 v5)), (6, .int (i2 y6)), (7, .int (i2 y7))] → WS D aC ad A H0 M H locs → W p l e rm_X11_harmOf s m args below meth c H locs 0 0 Q (F0 m 150 ls [])) : ∀ (n : Nat) (v6 : Int) (v7 : Int), whl (fun s => f_X11_harmOf_s87 v1 v2 v3 v5 M s.1 s.2) n (v6, v7) = some out → inR v6 → inR v7 → ∀ {H : Heap} {locs : List Loc} {ls : Array Slot}, lv_has ls 8 [(0, .ref (ad 80)), (1, .int (i2 v1)), (2, .int (i2 v2)), (3, .int (i2 v3)), (5, .int (i2 v5)), (6, .int (i2 v6)), (7, .int (i2 v7))] → WS D aC ad A H0 M H locs → W p l e rm_X11_harmOf s m args below meth c H locs 0 0 Q (F0 m 87 ls []) := by
  intro n
  induction n with
  | zero => intro v6 v7 hf; exact (whl_zero hf).elim
  | succ n ih =>
    intro v6 v7 hf hv6 hv7 H locs ls hl w
    obtain ⟨o, hf, hk1, hk2⟩ := whl_step hf
    exact b_X11_harmOf_s87 X v1 hv1 v2 hv2 v3 hv3 v5 hv5 (fun y6 y7 H locs ls eo hy6 hy7 hl w => ih y6 y7 (hk1 _ eo) hy6 hy7 hl w) (fun y6 y7 H locs ls eo hy6 hy7 hl w => HE y6 y7 H locs ls (hk2 _ eo).symm hy6 hy7 hl w) v6 hv6 v7 hv7 hf hl w
set_option maxRecDepth 100000 in
set_option maxHeartbeats 4000000 in
theorem b_X11_harmOf_j162k51 (X : CX p s m args c cX11_harmOf 8 RX11 D aC ad sg A H0) (v1 : Int) (hv1 : inR v1) {M : Mem} {o : (Int × Int × Int) ⊕ (Int × Int × Int)} (HC : ∀ (y2 : Int) (y3 : Int) (y5 : Int) (H : Heap) (locs : List Loc) (ls : Array Slot), o = .inl (y2, y3, y5) → inR y2 → inR y3 → inR y5 → lv_has ls 8 [(0, .ref (ad 80)), (1, .int (i2 v1)), (2, .int (i2 y2)), (3, .int (i2 y3)), (5, .int (i2 y5))] → WS D aC ad A H0 M H locs → W p l e rm_X11_harmOf s m args below meth c H locs 0 0 Q (F0 m 51 ls [])) (HE : ∀ (y2 : Int) (y3 : Int) (y5 : Int) (H : Heap) (locs : List Loc) (ls : Array Slot), o = .inr (y2, y3, y5) → inR y2 → inR y3 → inR y5 → lv_has ls 8 [(0, .ref (ad 80)), (1, .int (i2 v1)), (2, .int (i2 y2)), (3, .int (i2 y3)), (5, .int (i2 y5))] → WS D aC ad A H0 M H locs → W p l e rm_X11_harmOf s m args below meth c H locs 0 0 Q (F0 m 182 ls [])) (v2 : Int) (hv2 : inR v2) (v3 : Int) (hv3 : inR v3) (v5 : Int) (hv5 : inR v5) (v6 : Int) (hv6 : inR v6) (s0 : Int) (hs0 : inR s0) (hf : f_X11_harmOf_j162k51 v1 v2 v3 v5 v6 s0 M = some o) {H : Heap} {locs : List Loc} {ls : Array Slot} (hl : lv_has ls 8 [(0, .ref (ad 80)), (1, .int (i2 v1)), (2, .int (i2 v2)), (3, .int (i2 v3)), (5, .int (i2 v5)), (6, .int (i2 v6))]) (w : WS D aC ad A H0 M H locs) : W p l e rm_X11_harmOf s m args below meth c H locs 0 0 Q (F0 m 162 ls [.int (i2 s0)]) := by
  have hx := X.1.1
  have hb := X.1.2.1
  unfold f_X11_harmOf_j162k51 at hf
  refine g_istn (v := s0) (lv' := [(2, .int (i2 s0)), (0, .ref (ad 80)), (1, .int (i2 v1)), (3, .int (i2 v3)), (5, .int (i2 v5)), (6, .int (i2 v6))]) X rfl dX11_harmOf_162 rfl hl (by decide) rfl (fun ls hl => ?_)
  refine lv_iload hx hb dX11_harmOf_163 (lv_at hl 5 rfl) ?_
  refine lv_iload_n hx hb dX11_harmOf_165 rfl (lv_at hl 3 rfl) ?_
  refine g_icmp_le (tgt := 174) X hv6 hv3 dX11_harmOf_166 (by decide) (fun cd => ?_) (fun cd => ?_)
  · replace hf := ite_t cd hf
    refine lv_iload_n hx hb dX11_harmOf_174 rfl (lv_at hl 3 rfl) ?_
    refine g_istn (v := v3) (lv' := [(3, .int (i2 v3)), (2, .int (i2 s0)), (0, .ref (ad 80)), (1, .int (i2 v1)), (5, .int (i2 v5)), (6, .int (i2 v6))]) X rfl dX11_harmOf_175 rfl hl (by decide) rfl (fun ls hl => ?_)
    obtain ⟨v5_2, ev5_2, hf⟩ := lt_some hf
    have hv5_2 : inR v5_2 := inR_of ev5_2 (inR_wrap _)
    refine lv_iinc (v := i2 v5_2) (lv' := [(5, .int (i2 v5_2)), (3, .int (i2 v3)), (2, .int (i2 s0)), (0, .ref (ad 80)), (1, .int (i2 v1)), (6, .int (i2 v6))]) hx hb dX11_harmOf_176 hl (k := 4) rfl (by rw [ev5_2]; exact i2_add _ _) (by decide) rfl (fun ls hl => ?_)
    refine lv_goto (tgt := 51) hx hb dX11_harmOf_179 (by decide) ?_
    exact HC s0 v3 v5_2 _ _ _ (Option.some.inj hf).symm hs0 hv3 hv5_2 (lv_sub hl [3, 4, 2, 1, 0] rfl) w
  · replace hf := ite_f cd hf
    refine lv_iload hx hb dX11_harmOf_169 (lv_at hl 5 rfl) ?_
    refine lv_goto (tgt := 175) hx hb dX11_harmOf_171 (by decide) ?_
    refine g_istn (v := v6) (lv' := [(3, .int (i2 v6)), (2, .int (i2 s0)), (0, .ref (ad 80)), (1, .int (i2 v1)), (5, .int (i2 v5)), (6, .int (i2 v6))]) X rfl dX11_harmOf_175 rfl hl (by decide) rfl (fun ls hl => ?_)
    obtain ⟨v5_3, ev5_3, hf⟩ := lt_some hf
    have hv5_3 : inR v5_3 := inR_of ev5_3 (inR_wrap _)
    refine lv_iinc (v := i2 v5_3) (lv' := [(5, .int (i2 v5_3)), (3, .int (i2 v6)), (2, .int (i2 s0)), (0, .ref (ad 80)), (1, .int (i2 v1)), (6, .int (i2 v6))]) hx hb dX11_harmOf_176 hl (k := 4) rfl (by rw [ev5_3]; exact i2_add _ _) (by decide) rfl (fun ls hl => ?_)
    refine lv_goto (tgt := 51) hx hb dX11_harmOf_179 (by decide) ?_
    exact HC s0 v6 v5_3 _ _ _ (Option.some.inj hf).symm hs0 hv6 hv5_3 (lv_sub hl [3, 4, 2, 1, 0] rfl) w
set_option maxRecDepth 100000 in
set_option maxHeartbeats 4000000 in
theorem b_X11_harmOf_j150k51 (X : CX p s m args c cX11_harmOf 8 RX11 D aC ad sg A H0) (v1 : Int) (hv1 : inR v1) {M : Mem} {o : (Int × Int × Int) ⊕ (Int × Int × Int)} (HC : ∀ (y2 : Int) (y3 : Int) (y5 : Int) (H : Heap) (locs : List Loc) (ls : Array Slot), o = .inl (y2, y3, y5) → inR y2 → inR y3 → inR y5 → lv_has ls 8 [(0, .ref (ad 80)), (1, .int (i2 v1)), (2, .int (i2 y2)), (3, .int (i2 y3)), (5, .int (i2 y5))] → WS D aC ad A H0 M H locs → W p l e rm_X11_harmOf s m args below meth c H locs 0 0 Q (F0 m 51 ls [])) (HE : ∀ (y2 : Int) (y3 : Int) (y5 : Int) (H : Heap) (locs : List Loc) (ls : Array Slot), o = .inr (y2, y3, y5) → inR y2 → inR y3 → inR y5 → lv_has ls 8 [(0, .ref (ad 80)), (1, .int (i2 v1)), (2, .int (i2 y2)), (3, .int (i2 y3)), (5, .int (i2 y5))] → WS D aC ad A H0 M H locs → W p l e rm_X11_harmOf s m args below meth c H locs 0 0 Q (F0 m 182 ls [])) (v2 : Int) (hv2 : inR v2) (v3 : Int) (hv3 : inR v3) (v5 : Int) (hv5 : inR v5) (v6 : Int) (hv6 : inR v6) (hf : f_X11_harmOf_j150k51 v1 v2 v3 v5 v6 M = some o) {H : Heap} {locs : List Loc} {ls : Array Slot} (hl : lv_has ls 8 [(0, .ref (ad 80)), (1, .int (i2 v1)), (2, .int (i2 v2)), (3, .int (i2 v3)), (5, .int (i2 v5)), (6, .int (i2 v6))]) (w : WS D aC ad A H0 M H locs) : W p l e rm_X11_harmOf s m args below meth c H locs 0 0 Q (F0 m 150 ls []) := by
  have hx := X.1.1
  have hb := X.1.2.1
  unfold f_X11_harmOf_j150k51 at hf
  refine lv_iload hx hb dX11_harmOf_150 (lv_at hl 5 rfl) ?_
  refine lv_iload_n hx hb dX11_harmOf_152 rfl (lv_at hl 2 rfl) ?_
  refine g_icmp_ge (tgt := 161) X hv6 hv2 dX11_harmOf_153 (by decide) (fun cd => ?_) (fun cd => ?_)
  · replace hf := ite_t cd hf
    refine lv_iload_n hx hb dX11_harmOf_161 rfl (lv_at hl 2 rfl) ?_
    exact b_X11_harmOf_j162k51 X v1 hv1 HC HE v2 hv2 v3 hv3 v5 hv5 v6 hv6 v2 hv2 hf hl w
  · replace hf := ite_f cd hf
    refine lv_iload hx hb dX11_harmOf_156 (lv_at hl 5 rfl) ?_
    refine lv_goto (tgt := 162) hx hb dX11_harmOf_158 (by decide) ?_
    exact b_X11_harmOf_j162k51 X v1 hv1 HC HE v2 hv2 v3 hv3 v5 hv5 v6 hv6 v6 hv6 hf hl w
set_option maxRecDepth 100000 in
set_option maxHeartbeats 4000000 in
theorem b_X11_harmOf_j82k51 (X : CX p s m args c cX11_harmOf 8 RX11 D aC ad sg A H0) (v1 : Int) (hv1 : inR v1) {M : Mem} {o : (Int × Int × Int) ⊕ (Int × Int × Int)} (HC : ∀ (y2 : Int) (y3 : Int) (y5 : Int) (H : Heap) (locs : List Loc) (ls : Array Slot), o = .inl (y2, y3, y5) → inR y2 → inR y3 → inR y5 → lv_has ls 8 [(0, .ref (ad 80)), (1, .int (i2 v1)), (2, .int (i2 y2)), (3, .int (i2 y3)), (5, .int (i2 y5))] → WS D aC ad A H0 M H locs → W p l e rm_X11_harmOf s m args below meth c H locs 0 0 Q (F0 m 51 ls [])) (HE : ∀ (y2 : Int) (y3 : Int) (y5 : Int) (H : Heap) (locs : List Loc) (ls : Array Slot), o = .inr (y2, y3, y5) → inR y2 → inR y3 → inR y5 → lv_has ls 8 [(0, .ref (ad 80)), (1, .int (i2 v1)), (2, .int (i2 y2)), (3, .int (i2 y3)), (5, .int (i2 y5))] → WS D aC ad A H0 M H locs → W p l e rm_X11_harmOf s m args below meth c H locs 0 0 Q (F0 m 182 ls [])) (v2 : Int) (hv2 : inR v2) (v3 : Int) (hv3 : inR v3) (v5 : Int) (hv5 : inR v5) (s0 : Int) (hs0 : inR s0) (hf : f_X11_harmOf_j82k51 v1 v2 v3 v5 s0 M = some o) {H : Heap} {locs : List Loc} {ls : Array Slot} (hl : lv_has ls 8 [(0, .ref (ad 80)), (1, .int (i2 v1)), (2, .int (i2 v2)), (3, .int (i2 v3)), (5, .int (i2 v5))]) (w : WS D aC ad A H0 M H locs) : W p l e rm_X11_harmOf s m args below meth c H locs 0 0 Q (F0 m 82 ls [.int (i2 s0)]) := by
  have hx := X.1.1
  have hb := X.1.2.1
  unfold f_X11_harmOf_j82k51 at hf
  refine g_ist (v := s0) (lv' := [(6, .int (i2 s0)), (0, .ref (ad 80)), (1, .int (i2 v1)), (2, .int (i2 v2)), (3, .int (i2 v3)), (5, .int (i2 v5))]) X rfl dX11_harmOf_82 hl (by decide) rfl (fun ls hl => ?_)
  refine g_iconst X dX11_harmOf_84 ?_
  refine g_ist (v := 0) (lv' := [(7, .int (i2 0)), (6, .int (i2 s0)), (0, .ref (ad 80)), (1, .int (i2 v1)), (2, .int (i2 v2)), (3, .int (i2 v3)), (5, .int (i2 v5))]) X rfl dX11_harmOf_85 hl (by decide) rfl (fun ls hl => ?_)
  obtain ⟨q, hq, h1⟩ := obn_some hf
  exact l_X11_harmOf_87 X v1 hv1 v2 hv2 v3 hv3 v5 hv5 (out := q) (fun y6 y7 H locs ls eq hy6 hy7 hl w => b_X11_harmOf_j150k51 X v1 hv1 HC HE v2 hv2 v3 hv3 v5 hv5 y6 hy6 (by subst eq; exact h1) (lv_sub hl [0, 1, 2, 3, 4, 5] rfl) w)  FU s0 0 hq hs0 (inL rfl) (lv_sub hl [2, 3, 4, 5, 6, 1, 0] rfl) w
set_option maxRecDepth 100000 in
set_option maxHeartbeats 4000000 in
theorem b_X11_harmOf_s51 (X : CX p s m args c cX11_harmOf 8 RX11 D aC ad sg A H0) (v1 : Int) (hv1 : inR v1) {M : Mem} {o : (Int × Int × Int) ⊕ (Int × Int × Int)} (HC : ∀ (y2 : Int) (y3 : Int) (y5 : Int) (H : Heap) (locs : List Loc) (ls : Array Slot), o = .inl (y2, y3, y5) → inR y2 → inR y3 → inR y5 → lv_has ls 8 [(0, .ref (ad 80)), (1, .int (i2 v1)), (2, .int (i2 y2)), (3, .int (i2 y3)), (5, .int (i2 y5))] → WS D aC ad A H0 M H locs → W p l e rm_X11_harmOf s m args below meth c H locs 0 0 Q (F0 m 51 ls [])) (HE : ∀ (y2 : Int) (y3 : Int) (y5 : Int) (H : Heap) (locs : List Loc) (ls : Array Slot), o = .inr (y2, y3, y5) → inR y2 → inR y3 → inR y5 → lv_has ls 8 [(0, .ref (ad 80)), (1, .int (i2 v1)), (2, .int (i2 y2)), (3, .int (i2 y3)), (5, .int (i2 y5))] → WS D aC ad A H0 M H locs → W p l e rm_X11_harmOf s m args below meth c H locs 0 0 Q (F0 m 182 ls [])) (v2 : Int) (hv2 : inR v2) (v3 : Int) (hv3 : inR v3) (v5 : Int) (hv5 : inR v5) (hf : f_X11_harmOf_s51 v1 M v2 v3 v5 = some o) {H : Heap} {locs : List Loc} {ls : Array Slot} (hl : lv_has ls 8 [(0, .ref (ad 80)), (1, .int (i2 v1)), (2, .int (i2 v2)), (3, .int (i2 v3)), (5, .int (i2 v5))]) (w : WS D aC ad A H0 M H locs) : W p l e rm_X11_harmOf s m args below meth c H locs 0 0 Q (F0 m 51 ls []) := by
  have hx := X.1.1
  have hb := X.1.2.1
  unfold f_X11_harmOf_s51 at hf
  refine lv_iload hx hb dX11_harmOf_51 (lv_at hl 4 rfl) ?_
  refine lv_aload_n hx hb dX11_harmOf_53 rfl (lv_at hl 0 rfl) ?_
  refine g_geti X w fg_X11_41 KD_80 FR_80_12 dX11_harmOf_54 ?_
  refine g_icmp_ge (tgt := 182) X hv5 (w.2.2 _ _) dX11_harmOf_57 (by decide) (fun cd => ?_) (fun cd => ?_)
  · replace hf := ite_t cd hf
    exact HE v2 v3 v5 _ _ _ (Option.some.inj hf).symm hv2 hv3 hv5 hl w
  · replace hf := ite_f cd hf
    refine lv_aload_n hx hb dX11_harmOf_60 rfl (lv_at hl 0 rfl) ?_
    refine g_getr X w fg_X11_63 KD_80 FR_80_23 dX11_harmOf_61 ?_
    refine lv_iload_n hx hb dX11_harmOf_64 rfl (lv_at hl 1 rfl) ?_
    obtain ⟨hg, hf⟩ := gd_some hf
    refine g_iald X w KD_97 hv1 hg dX11_harmOf_65 ?_
    refine g_if_ne (tgt := 81) X (w.2.2 _ _) dX11_harmOf_66 (by decide) (fun cd_2 => ?_) (fun cd_2 => ?_)
    · replace hf := ite_f cd_2 hf
      refine g_iconst X dX11_harmOf_81 ?_
      exact b_X11_harmOf_j82k51 X v1 hv1 HC HE v2 hv2 v3 hv3 v5 hv5 0 (inL rfl) hf hl w
    · replace hf := ite_t cd_2 hf
      refine lv_aload_n hx hb dX11_harmOf_69 rfl (lv_at hl 0 rfl) ?_
      refine g_iconst X dX11_harmOf_70 ?_
      refine lv_iload_n hx hb dX11_harmOf_71 rfl (lv_at hl 1 rfl) ?_
      refine g_imul X dX11_harmOf_72 ?_
      refine lv_iload hx hb dX11_harmOf_73 (lv_at hl 4 rfl) ?_
      obtain ⟨r, hc, hf⟩ := obn_some hf
      refine g_cvi (As := [.int (i2 (wrap (2 * v1))), .int (i2 v5)]) (rest := []) X w (k_X11_holdIn X.2.2.1 (wrap (2 * v1)) (inR_wrap _) v5 hv5 w.2.2 hc) lk_X11_332 cl_11 KD_80 ⟨rfl, rfl⟩ ⟨nle rfl, nle rfl⟩ ⟨nle rfl, nle rfl⟩ hl.1 rfl (nle rfl) dX11_harmOf_75 (fun hr H locs w => ?_)
      refine lv_goto (tgt := 82) hx hb dX11_harmOf_78 (by decide) ?_
      exact b_X11_harmOf_j82k51 X v1 hv1 HC HE v2 hv2 v3 hv3 v5 hv5 r hr hf hl w
set_option maxRecDepth 100000 in
set_option maxHeartbeats 4000000 in
theorem l_X11_harmOf_51 (X : CX p s m args c cX11_harmOf 8 RX11 D aC ad sg A H0) (v1 : Int) (hv1 : inR v1) {M : Mem} {out : Int × Int × Int} (HE : ∀ (y2 : Int) (y3 : Int) (y5 : Int) (H : Heap) (locs : List Loc) (ls : Array Slot), out = (y2, y3, y5) → inR y2 → inR y3 → inR y5 → lv_has ls 8 [(0, .ref (ad 80)), (1, .int (i2 v1)), (2, .int (i2 y2)), (3, .int (i2 y3)), (5, .int (i2 y5))] → WS D aC ad A H0 M H locs → W p l e rm_X11_harmOf s m args below meth c H locs 0 0 Q (F0 m 182 ls [])) : ∀ (n : Nat) (v2 : Int) (v3 : Int) (v5 : Int), whl (fun s => f_X11_harmOf_s51 v1 M s.1 s.2.1 s.2.2) n (v2, v3, v5) = some out → inR v2 → inR v3 → inR v5 → ∀ {H : Heap} {locs : List Loc} {ls : Array Slot}, lv_has ls 8 [(0, .ref (ad 80)), (1, .int (i2 v1)), (2, .int (i2 v2)), (3, .int (i2 v3)), (5, .int (i2 v5))] → WS D aC ad A H0 M H locs → W p l e rm_X11_harmOf s m args below meth c H locs 0 0 Q (F0 m 51 ls []) := by
  intro n
  induction n with
  | zero => intro v2 v3 v5 hf; exact (whl_zero hf).elim
  | succ n ih =>
    intro v2 v3 v5 hf hv2 hv3 hv5 H locs ls hl w
    obtain ⟨o, hf, hk1, hk2⟩ := whl_step hf
    exact b_X11_harmOf_s51 X v1 hv1 (fun y2 y3 y5 H locs ls eo hy2 hy3 hy5 hl w => ih y2 y3 y5 (hk1 _ eo) hy2 hy3 hy5 hl w) (fun y2 y3 y5 H locs ls eo hy2 hy3 hy5 hl w => HE y2 y3 y5 H locs ls (hk2 _ eo).symm hy2 hy3 hy5 hl w) v2 hv2 v3 hv3 v5 hv5 hf hl w
set_option maxRecDepth 100000 in
set_option maxHeartbeats 4000000 in
theorem b_X11_harmOf_j182 (X : CX p s m args c cX11_harmOf 8 RX11 D aC ad sg A H0) {M : Mem} {o : Int} (HR : ∀ (r : Int) (H : Heap) (locs : List Loc) (pc : Nat) (ls : Array Slot), o = r → inR r → WS D aC ad A H0 M H locs → decode cX11_harmOf pc = .ok (.ireturn, 1) → W p l e rm_X11_harmOf s m args below meth c H locs 0 0 Q (F0 m pc ls [.int (i2 r)])) (v1 : Int) (hv1 : inR v1) (v2 : Int) (hv2 : inR v2) (v3 : Int) (hv3 : inR v3) (hf : f_X11_harmOf_j182 v1 v2 v3 M = some o) {H : Heap} {locs : List Loc} {ls : Array Slot} (hl : lv_has ls 8 [(0, .ref (ad 80)), (1, .int (i2 v1)), (2, .int (i2 v2)), (3, .int (i2 v3))]) (w : WS D aC ad A H0 M H locs) : W p l e rm_X11_harmOf s m args below meth c H locs 0 0 Q (F0 m 182 ls []) := by
  have hx := X.1.1
  have hb := X.1.2.1
  unfold f_X11_harmOf_j182 at hf
  refine lv_aload_n hx hb dX11_harmOf_182 rfl (lv_at hl 0 rfl) ?_
  refine g_getr X w fg_X11_66 KD_80 FR_80_24 dX11_harmOf_183 ?_
  refine lv_iload_n hx hb dX11_harmOf_186 rfl (lv_at hl 1 rfl) ?_
  obtain ⟨hg, hf⟩ := gd_some hf
  refine g_iald X w KD_98 hv1 hg dX11_harmOf_187 ?_
  refine lv_iload_n hx hb dX11_harmOf_188 rfl (lv_at hl 3 rfl) ?_
  refine lv_iload_n hx hb dX11_harmOf_189 rfl (lv_at hl 2 rfl) ?_
  refine g_isub X dX11_harmOf_190 ?_
  refine g_imul X dX11_harmOf_191 ?_
  exact HR (wrap ((M 98 v1.toNat) * (wrap (v3 - v2)))) _ _ _ _ (Option.some.inj hf).symm (inR_wrap _) w dX11_harmOf_192
set_option maxRecDepth 100000 in
set_option maxHeartbeats 4000000 in
theorem b_X11_harmOf_s196 (X : CX p s m args c cX11_harmOf 8 RX11 D aC ad sg A H0) (v1 : Int) (hv1 : inR v1) {M : Mem} {o : (Int × Int) ⊕ (Int × Int)} (HC : ∀ (y4 : Int) (y5 : Int) (H : Heap) (locs : List Loc) (ls : Array Slot), o = .inl (y4, y5) → inR y4 → inR y5 → lv_has ls 8 [(0, .ref (ad 80)), (1, .int (i2 v1)), (4, .int (i2 y4)), (5, .int (i2 y5))] → WS D aC ad A H0 M H locs → W p l e rm_X11_harmOf s m args below meth c H locs 0 0 Q (F0 m 196 ls [])) (HE : ∀ (y4 : Int) (y5 : Int) (H : Heap) (locs : List Loc) (ls : Array Slot), o = .inr (y4, y5) → inR y4 → inR y5 → lv_has ls 8 [(0, .ref (ad 80)), (1, .int (i2 v1)), (4, .int (i2 y4)), (5, .int (i2 y5))] → WS D aC ad A H0 M H locs → W p l e rm_X11_harmOf s m args below meth c H locs 0 0 Q (F0 m 250 ls [])) (v4 : Int) (hv4 : inR v4) (v5 : Int) (hv5 : inR v5) (hf : f_X11_harmOf_s196 v1 M v4 v5 = some o) {H : Heap} {locs : List Loc} {ls : Array Slot} (hl : lv_has ls 8 [(0, .ref (ad 80)), (1, .int (i2 v1)), (4, .int (i2 v4)), (5, .int (i2 v5))]) (w : WS D aC ad A H0 M H locs) : W p l e rm_X11_harmOf s m args below meth c H locs 0 0 Q (F0 m 196 ls []) := by
  have hx := X.1.1
  have hb := X.1.2.1
  unfold f_X11_harmOf_s196 at hf
  refine lv_iload hx hb dX11_harmOf_196 (lv_at hl 3 rfl) ?_
  refine lv_aload_n hx hb dX11_harmOf_198 rfl (lv_at hl 0 rfl) ?_
  refine g_geti X w fg_X11_142 KD_80 FR_80_1 dX11_harmOf_199 ?_
  refine g_icmp_ge (tgt := 250) X hv5 (w.2.2 _ _) dX11_harmOf_202 (by decide) (fun cd => ?_) (fun cd => ?_)
  · replace hf := ite_t cd hf
    exact HE v4 v5 _ _ _ (Option.some.inj hf).symm hv4 hv5 hl w
  · replace hf := ite_f cd hf
    refine lv_iload hx hb dX11_harmOf_205 (lv_at hl 2 rfl) ?_
    refine lv_aload_n hx hb dX11_harmOf_207 rfl (lv_at hl 0 rfl) ?_
    refine g_getr X w fg_X11_100 KD_80 FR_80_41 dX11_harmOf_208 ?_
    refine lv_iload hx hb dX11_harmOf_211 (lv_at hl 3 rfl) ?_
    obtain ⟨hg, hf⟩ := gd_some hf
    refine g_iald X w KD_108 hv5 hg dX11_harmOf_213 ?_
    refine g_iconst X dX11_harmOf_214 ?_
    refine g_icmp_eq (tgt := 240) X (w.2.2 _ _) (inL rfl) dX11_harmOf_215 (by decide) (fun cd_2 => ?_) (fun cd_2 => ?_)
    · replace hf := ite_t cd_2 hf
      refine g_iconst X dX11_harmOf_240 ?_
      refine g_iadd X dX11_harmOf_241 ?_
      obtain ⟨v4_2, ev4_2, hf⟩ := lt_some hf
      have hv4_2 : inR v4_2 := inR_of ev4_2 (inR_wrap _)
      refine g_ist (v := v4_2) (lv' := [(4, .int (i2 v4_2)), (0, .ref (ad 80)), (1, .int (i2 v1)), (5, .int (i2 v5))]) X ev4_2 dX11_harmOf_242 hl (by decide) rfl (fun ls hl => ?_)
      obtain ⟨v5_2, ev5_2, hf⟩ := lt_some hf
      have hv5_2 : inR v5_2 := inR_of ev5_2 (inR_wrap _)
      refine lv_iinc (v := i2 v5_2) (lv' := [(5, .int (i2 v5_2)), (4, .int (i2 v4_2)), (0, .ref (ad 80)), (1, .int (i2 v1))]) hx hb dX11_harmOf_244 hl (k := 3) rfl (by rw [ev5_2]; exact i2_add _ _) (by decide) rfl (fun ls hl => ?_)
      refine lv_goto (tgt := 196) hx hb dX11_harmOf_247 (by decide) ?_
      exact HC v4_2 v5_2 _ _ _ (Option.some.inj hf).symm hv4_2 hv5_2 (lv_sub hl [2, 3, 1, 0] rfl) w
    · replace hf := ite_f cd_2 hf
      refine lv_aload_n hx hb dX11_harmOf_218 rfl (lv_at hl 0 rfl) ?_
      refine lv_iload hx hb dX11_harmOf_219 (lv_at hl 3 rfl) ?_
      obtain ⟨r, hc, hf⟩ := obn_some hf
      refine g_cvi (As := [.int (i2 v5)]) (rest := [.int (i2 v4)]) X w (k_X11_servedIn X.2.2.1 v5 hv5 w.2.2 hc) lk_X11_337 cl_11 KD_80 ⟨rfl, rfl⟩ ⟨nle rfl, nle rfl⟩ ⟨nle rfl, nle rfl⟩ hl.1 rfl (nle rfl) dX11_harmOf_221 (fun hr H locs w => ?_)
      refine g_iconst X dX11_harmOf_224 ?_
      refine g_icmp_ne (tgt := 240) X hr (inL rfl) dX11_harmOf_225 (by decide) (fun cd_3 => ?_) (fun cd_3 => ?_)
      · replace hf := ite_f cd_3 hf
        refine g_iconst X dX11_harmOf_240 ?_
        refine g_iadd X dX11_harmOf_241 ?_
        obtain ⟨v4_3, ev4_3, hf⟩ := lt_some hf
        have hv4_3 : inR v4_3 := inR_of ev4_3 (inR_wrap _)
        refine g_ist (v := v4_3) (lv' := [(4, .int (i2 v4_3)), (0, .ref (ad 80)), (1, .int (i2 v1)), (5, .int (i2 v5))]) X ev4_3 dX11_harmOf_242 hl (by decide) rfl (fun ls hl => ?_)
        obtain ⟨v5_3, ev5_3, hf⟩ := lt_some hf
        have hv5_3 : inR v5_3 := inR_of ev5_3 (inR_wrap _)
        refine lv_iinc (v := i2 v5_3) (lv' := [(5, .int (i2 v5_3)), (4, .int (i2 v4_3)), (0, .ref (ad 80)), (1, .int (i2 v1))]) hx hb dX11_harmOf_244 hl (k := 3) rfl (by rw [ev5_3]; exact i2_add _ _) (by decide) rfl (fun ls hl => ?_)
        refine lv_goto (tgt := 196) hx hb dX11_harmOf_247 (by decide) ?_
        exact HC v4_3 v5_3 _ _ _ (Option.some.inj hf).symm hv4_3 hv5_3 (lv_sub hl [2, 3, 1, 0] rfl) w
      · replace hf := ite_t cd_3 hf
        refine g_iconst X dX11_harmOf_228 ?_
        refine lv_aload_n hx hb dX11_harmOf_229 rfl (lv_at hl 0 rfl) ?_
        refine g_getr X w fg_X11_22 KD_80 FR_80_6 dX11_harmOf_230 ?_
        refine lv_iload hx hb dX11_harmOf_233 (lv_at hl 3 rfl) ?_
        obtain ⟨hg_2, hf⟩ := gd_some hf
        refine g_iald X w KD_85 hv5 hg_2 dX11_harmOf_235 ?_
        refine g_iadd X dX11_harmOf_236 ?_
        refine lv_goto (tgt := 241) hx hb dX11_harmOf_237 (by decide) ?_
        refine g_iadd X dX11_harmOf_241 ?_
        obtain ⟨v4_4, ev4_4, hf⟩ := lt_some hf
        have hv4_4 : inR v4_4 := inR_of ev4_4 (inR_wrap _)
        refine g_ist (v := v4_4) (lv' := [(4, .int (i2 v4_4)), (0, .ref (ad 80)), (1, .int (i2 v1)), (5, .int (i2 v5))]) X ev4_4 dX11_harmOf_242 hl (by decide) rfl (fun ls hl => ?_)
        obtain ⟨v5_4, ev5_4, hf⟩ := lt_some hf
        have hv5_4 : inR v5_4 := inR_of ev5_4 (inR_wrap _)
        refine lv_iinc (v := i2 v5_4) (lv' := [(5, .int (i2 v5_4)), (4, .int (i2 v4_4)), (0, .ref (ad 80)), (1, .int (i2 v1))]) hx hb dX11_harmOf_244 hl (k := 3) rfl (by rw [ev5_4]; exact i2_add _ _) (by decide) rfl (fun ls hl => ?_)
        refine lv_goto (tgt := 196) hx hb dX11_harmOf_247 (by decide) ?_
        exact HC v4_4 v5_4 _ _ _ (Option.some.inj hf).symm hv4_4 hv5_4 (lv_sub hl [2, 3, 1, 0] rfl) w
set_option maxRecDepth 100000 in
set_option maxHeartbeats 4000000 in
theorem l_X11_harmOf_196 (X : CX p s m args c cX11_harmOf 8 RX11 D aC ad sg A H0) (v1 : Int) (hv1 : inR v1) {M : Mem} {out : Int × Int} (HE : ∀ (y4 : Int) (y5 : Int) (H : Heap) (locs : List Loc) (ls : Array Slot), out = (y4, y5) → inR y4 → inR y5 → lv_has ls 8 [(0, .ref (ad 80)), (1, .int (i2 v1)), (4, .int (i2 y4)), (5, .int (i2 y5))] → WS D aC ad A H0 M H locs → W p l e rm_X11_harmOf s m args below meth c H locs 0 0 Q (F0 m 250 ls [])) : ∀ (n : Nat) (v4 : Int) (v5 : Int), whl (fun s => f_X11_harmOf_s196 v1 M s.1 s.2) n (v4, v5) = some out → inR v4 → inR v5 → ∀ {H : Heap} {locs : List Loc} {ls : Array Slot}, lv_has ls 8 [(0, .ref (ad 80)), (1, .int (i2 v1)), (4, .int (i2 v4)), (5, .int (i2 v5))] → WS D aC ad A H0 M H locs → W p l e rm_X11_harmOf s m args below meth c H locs 0 0 Q (F0 m 196 ls []) := by
  intro n
  induction n with
  | zero => intro v4 v5 hf; exact (whl_zero hf).elim
  | succ n ih =>
    intro v4 v5 hf hv4 hv5 H locs ls hl w
    obtain ⟨o, hf, hk1, hk2⟩ := whl_step hf
    exact b_X11_harmOf_s196 X v1 hv1 (fun y4 y5 H locs ls eo hy4 hy5 hl w => ih y4 y5 (hk1 _ eo) hy4 hy5 hl w) (fun y4 y5 H locs ls eo hy4 hy5 hl w => HE y4 y5 H locs ls (hk2 _ eo).symm hy4 hy5 hl w) v4 hv4 v5 hv5 hf hl w
set_option maxRecDepth 100000 in
set_option maxHeartbeats 4000000 in
theorem b_X11_harmOf_j250 (X : CX p s m args c cX11_harmOf 8 RX11 D aC ad sg A H0) {M : Mem} {o : Int} (HR : ∀ (r : Int) (H : Heap) (locs : List Loc) (pc : Nat) (ls : Array Slot), o = r → inR r → WS D aC ad A H0 M H locs → decode cX11_harmOf pc = .ok (.ireturn, 1) → W p l e rm_X11_harmOf s m args below meth c H locs 0 0 Q (F0 m pc ls [.int (i2 r)])) (v1 : Int) (hv1 : inR v1) (v4 : Int) (hv4 : inR v4) (hf : f_X11_harmOf_j250 v1 v4 M = some o) {H : Heap} {locs : List Loc} {ls : Array Slot} (hl : lv_has ls 8 [(0, .ref (ad 80)), (1, .int (i2 v1)), (4, .int (i2 v4))]) (w : WS D aC ad A H0 M H locs) : W p l e rm_X11_harmOf s m args below meth c H locs 0 0 Q (F0 m 250 ls []) := by
  have hx := X.1.1
  have hb := X.1.2.1
  unfold f_X11_harmOf_j250 at hf
  refine lv_aload_n hx hb dX11_harmOf_250 rfl (lv_at hl 0 rfl) ?_
  refine g_getr X w fg_X11_66 KD_80 FR_80_24 dX11_harmOf_251 ?_
  refine lv_iload_n hx hb dX11_harmOf_254 rfl (lv_at hl 1 rfl) ?_
  obtain ⟨hg, hf⟩ := gd_some hf
  refine g_iald X w KD_98 hv1 hg dX11_harmOf_255 ?_
  refine lv_iload hx hb dX11_harmOf_256 (lv_at hl 2 rfl) ?_
  refine g_imul X dX11_harmOf_258 ?_
  exact HR (wrap ((M 98 v1.toNat) * v4)) _ _ _ _ (Option.some.inj hf).symm (inR_wrap _) w dX11_harmOf_259
set_option maxRecDepth 100000 in
set_option maxHeartbeats 4000000 in
theorem b_X11_harmOf_s263 (X : CX p s m args c cX11_harmOf 8 RX11 D aC ad sg A H0) (v1 : Int) (hv1 : inR v1) {M : Mem} {o : (Int × Int) ⊕ (Int × Int)} (HC : ∀ (y4 : Int) (y5 : Int) (H : Heap) (locs : List Loc) (ls : Array Slot), o = .inl (y4, y5) → inR y4 → inR y5 → lv_has ls 8 [(0, .ref (ad 80)), (1, .int (i2 v1)), (4, .int (i2 y4)), (5, .int (i2 y5))] → WS D aC ad A H0 M H locs → W p l e rm_X11_harmOf s m args below meth c H locs 0 0 Q (F0 m 263 ls [])) (HE : ∀ (y4 : Int) (y5 : Int) (H : Heap) (locs : List Loc) (ls : Array Slot), o = .inr (y4, y5) → inR y4 → inR y5 → lv_has ls 8 [(0, .ref (ad 80)), (1, .int (i2 v1)), (4, .int (i2 y4)), (5, .int (i2 y5))] → WS D aC ad A H0 M H locs → W p l e rm_X11_harmOf s m args below meth c H locs 0 0 Q (F0 m 332 ls [])) (v4 : Int) (hv4 : inR v4) (v5 : Int) (hv5 : inR v5) (hf : f_X11_harmOf_s263 v1 M v4 v5 = some o) {H : Heap} {locs : List Loc} {ls : Array Slot} (hl : lv_has ls 8 [(0, .ref (ad 80)), (1, .int (i2 v1)), (4, .int (i2 v4)), (5, .int (i2 v5))]) (w : WS D aC ad A H0 M H locs) : W p l e rm_X11_harmOf s m args below meth c H locs 0 0 Q (F0 m 263 ls []) := by
  have hx := X.1.1
  have hb := X.1.2.1
  unfold f_X11_harmOf_s263 at hf
  refine lv_iload hx hb dX11_harmOf_263 (lv_at hl 3 rfl) ?_
  refine lv_aload_n hx hb dX11_harmOf_265 rfl (lv_at hl 0 rfl) ?_
  refine g_geti X w fg_X11_142 KD_80 FR_80_1 dX11_harmOf_266 ?_
  refine g_icmp_ge (tgt := 332) X hv5 (w.2.2 _ _) dX11_harmOf_269 (by decide) (fun cd => ?_) (fun cd => ?_)
  · replace hf := ite_t cd hf
    exact HE v4 v5 _ _ _ (Option.some.inj hf).symm hv4 hv5 hl w
  · replace hf := ite_f cd hf
    refine lv_iload hx hb dX11_harmOf_272 (lv_at hl 2 rfl) ?_
    refine lv_aload_n hx hb dX11_harmOf_274 rfl (lv_at hl 0 rfl) ?_
    refine g_getr X w fg_X11_100 KD_80 FR_80_41 dX11_harmOf_275 ?_
    refine lv_iload hx hb dX11_harmOf_278 (lv_at hl 3 rfl) ?_
    obtain ⟨hg, hf⟩ := gd_some hf
    refine g_iald X w KD_108 hv5 hg dX11_harmOf_280 ?_
    refine g_iconst X dX11_harmOf_281 ?_
    refine g_icmp_eq (tgt := 322) X (w.2.2 _ _) (inL rfl) dX11_harmOf_282 (by decide) (fun cd_2 => ?_) (fun cd_2 => ?_)
    · replace hf := ite_t cd_2 hf
      refine g_iconst X dX11_harmOf_322 ?_
      refine g_iadd X dX11_harmOf_323 ?_
      obtain ⟨v4_2, ev4_2, hf⟩ := lt_some hf
      have hv4_2 : inR v4_2 := inR_of ev4_2 (inR_wrap _)
      refine g_ist (v := v4_2) (lv' := [(4, .int (i2 v4_2)), (0, .ref (ad 80)), (1, .int (i2 v1)), (5, .int (i2 v5))]) X ev4_2 dX11_harmOf_324 hl (by decide) rfl (fun ls hl => ?_)
      obtain ⟨v5_2, ev5_2, hf⟩ := lt_some hf
      have hv5_2 : inR v5_2 := inR_of ev5_2 (inR_wrap _)
      refine lv_iinc (v := i2 v5_2) (lv' := [(5, .int (i2 v5_2)), (4, .int (i2 v4_2)), (0, .ref (ad 80)), (1, .int (i2 v1))]) hx hb dX11_harmOf_326 hl (k := 3) rfl (by rw [ev5_2]; exact i2_add _ _) (by decide) rfl (fun ls hl => ?_)
      refine lv_goto (tgt := 263) hx hb dX11_harmOf_329 (by decide) ?_
      exact HC v4_2 v5_2 _ _ _ (Option.some.inj hf).symm hv4_2 hv5_2 (lv_sub hl [2, 3, 1, 0] rfl) w
    · replace hf := ite_f cd_2 hf
      refine lv_aload_n hx hb dX11_harmOf_285 rfl (lv_at hl 0 rfl) ?_
      refine g_getr X w fg_X11_97 KD_80 FR_80_40 dX11_harmOf_286 ?_
      refine g_bipush X dX11_harmOf_289 (by decide) ?_
      refine lv_iload_n hx hb dX11_harmOf_291 rfl (lv_at hl 1 rfl) ?_
      refine g_imul X dX11_harmOf_292 ?_
      refine lv_iload hx hb dX11_harmOf_293 (lv_at hl 3 rfl) ?_
      refine g_iadd X dX11_harmOf_295 ?_
      obtain ⟨hg_2, hf⟩ := gd_some hf
      refine g_zald X w KD_107 (inR_wrap _) hg_2 dX11_harmOf_296 ?_
      refine g_if_eq (tgt := 322) X (w.2.2 _ _) dX11_harmOf_297 (by decide) (fun cd_3 => ?_) (fun cd_3 => ?_)
      · replace hf := ite_t cd_3 hf
        refine g_iconst X dX11_harmOf_322 ?_
        refine g_iadd X dX11_harmOf_323 ?_
        obtain ⟨v4_3, ev4_3, hf⟩ := lt_some hf
        have hv4_3 : inR v4_3 := inR_of ev4_3 (inR_wrap _)
        refine g_ist (v := v4_3) (lv' := [(4, .int (i2 v4_3)), (0, .ref (ad 80)), (1, .int (i2 v1)), (5, .int (i2 v5))]) X ev4_3 dX11_harmOf_324 hl (by decide) rfl (fun ls hl => ?_)
        obtain ⟨v5_3, ev5_3, hf⟩ := lt_some hf
        have hv5_3 : inR v5_3 := inR_of ev5_3 (inR_wrap _)
        refine lv_iinc (v := i2 v5_3) (lv' := [(5, .int (i2 v5_3)), (4, .int (i2 v4_3)), (0, .ref (ad 80)), (1, .int (i2 v1))]) hx hb dX11_harmOf_326 hl (k := 3) rfl (by rw [ev5_3]; exact i2_add _ _) (by decide) rfl (fun ls hl => ?_)
        refine lv_goto (tgt := 263) hx hb dX11_harmOf_329 (by decide) ?_
        exact HC v4_3 v5_3 _ _ _ (Option.some.inj hf).symm hv4_3 hv5_3 (lv_sub hl [2, 3, 1, 0] rfl) w
      · replace hf := ite_f cd_3 hf
        refine lv_aload_n hx hb dX11_harmOf_300 rfl (lv_at hl 0 rfl) ?_
        refine g_iconst X dX11_harmOf_301 ?_
        refine lv_iload_n hx hb dX11_harmOf_302 rfl (lv_at hl 1 rfl) ?_
        refine g_imul X dX11_harmOf_303 ?_
        refine lv_aload_n hx hb dX11_harmOf_304 rfl (lv_at hl 0 rfl) ?_
        refine g_getr X w fg_X11_100 KD_80 FR_80_41 dX11_harmOf_305 ?_
        refine lv_iload hx hb dX11_harmOf_308 (lv_at hl 3 rfl) ?_
        obtain ⟨hg_3, hf⟩ := gd_some hf
        refine g_iald X w KD_108 hv5 hg_3 dX11_harmOf_310 ?_
        obtain ⟨r, hc, hf⟩ := obn_some hf
        refine g_cvi (As := [.int (i2 (wrap (2 * v1))), .int (i2 (M 108 v5.toNat))]) (rest := [.int (i2 v4)]) X w (k_X11_holdIn X.2.2.1 (wrap (2 * v1)) (inR_wrap _) (M 108 v5.toNat) (w.2.2 _ _) w.2.2 hc) lk_X11_332 cl_11 KD_80 ⟨rfl, rfl⟩ ⟨nle rfl, nle rfl⟩ ⟨nle rfl, nle rfl⟩ hl.1 rfl (nle rfl) dX11_harmOf_311 (fun hr H locs w => ?_)
        refine g_iconst X dX11_harmOf_314 ?_
        refine g_icmp_ne (tgt := 322) X hr (inL rfl) dX11_harmOf_315 (by decide) (fun cd_4 => ?_) (fun cd_4 => ?_)
        · replace hf := ite_f cd_4 hf
          refine g_iconst X dX11_harmOf_322 ?_
          refine g_iadd X dX11_harmOf_323 ?_
          obtain ⟨v4_4, ev4_4, hf⟩ := lt_some hf
          have hv4_4 : inR v4_4 := inR_of ev4_4 (inR_wrap _)
          refine g_ist (v := v4_4) (lv' := [(4, .int (i2 v4_4)), (0, .ref (ad 80)), (1, .int (i2 v1)), (5, .int (i2 v5))]) X ev4_4 dX11_harmOf_324 hl (by decide) rfl (fun ls hl => ?_)
          obtain ⟨v5_4, ev5_4, hf⟩ := lt_some hf
          have hv5_4 : inR v5_4 := inR_of ev5_4 (inR_wrap _)
          refine lv_iinc (v := i2 v5_4) (lv' := [(5, .int (i2 v5_4)), (4, .int (i2 v4_4)), (0, .ref (ad 80)), (1, .int (i2 v1))]) hx hb dX11_harmOf_326 hl (k := 3) rfl (by rw [ev5_4]; exact i2_add _ _) (by decide) rfl (fun ls hl => ?_)
          refine lv_goto (tgt := 263) hx hb dX11_harmOf_329 (by decide) ?_
          exact HC v4_4 v5_4 _ _ _ (Option.some.inj hf).symm hv4_4 hv5_4 (lv_sub hl [2, 3, 1, 0] rfl) w
        · replace hf := ite_t cd_4 hf
          refine g_iconst X dX11_harmOf_318 ?_
          refine lv_goto (tgt := 323) hx hb dX11_harmOf_319 (by decide) ?_
          refine g_iadd X dX11_harmOf_323 ?_
          obtain ⟨v4_5, ev4_5, hf⟩ := lt_some hf
          have hv4_5 : inR v4_5 := inR_of ev4_5 (inR_wrap _)
          refine g_ist (v := v4_5) (lv' := [(4, .int (i2 v4_5)), (0, .ref (ad 80)), (1, .int (i2 v1)), (5, .int (i2 v5))]) X ev4_5 dX11_harmOf_324 hl (by decide) rfl (fun ls hl => ?_)
          obtain ⟨v5_5, ev5_5, hf⟩ := lt_some hf
          have hv5_5 : inR v5_5 := inR_of ev5_5 (inR_wrap _)
          refine lv_iinc (v := i2 v5_5) (lv' := [(5, .int (i2 v5_5)), (4, .int (i2 v4_5)), (0, .ref (ad 80)), (1, .int (i2 v1))]) hx hb dX11_harmOf_326 hl (k := 3) rfl (by rw [ev5_5]; exact i2_add _ _) (by decide) rfl (fun ls hl => ?_)
          refine lv_goto (tgt := 263) hx hb dX11_harmOf_329 (by decide) ?_
          exact HC v4_5 v5_5 _ _ _ (Option.some.inj hf).symm hv4_5 hv5_5 (lv_sub hl [2, 3, 1, 0] rfl) w
set_option maxRecDepth 100000 in
set_option maxHeartbeats 4000000 in
theorem l_X11_harmOf_263 (X : CX p s m args c cX11_harmOf 8 RX11 D aC ad sg A H0) (v1 : Int) (hv1 : inR v1) {M : Mem} {out : Int × Int} (HE : ∀ (y4 : Int) (y5 : Int) (H : Heap) (locs : List Loc) (ls : Array Slot), out = (y4, y5) → inR y4 → inR y5 → lv_has ls 8 [(0, .ref (ad 80)), (1, .int (i2 v1)), (4, .int (i2 y4)), (5, .int (i2 y5))] → WS D aC ad A H0 M H locs → W p l e rm_X11_harmOf s m args below meth c H locs 0 0 Q (F0 m 332 ls [])) : ∀ (n : Nat) (v4 : Int) (v5 : Int), whl (fun s => f_X11_harmOf_s263 v1 M s.1 s.2) n (v4, v5) = some out → inR v4 → inR v5 → ∀ {H : Heap} {locs : List Loc} {ls : Array Slot}, lv_has ls 8 [(0, .ref (ad 80)), (1, .int (i2 v1)), (4, .int (i2 v4)), (5, .int (i2 v5))] → WS D aC ad A H0 M H locs → W p l e rm_X11_harmOf s m args below meth c H locs 0 0 Q (F0 m 263 ls []) := by
  intro n
  induction n with
  | zero => intro v4 v5 hf; exact (whl_zero hf).elim
  | succ n ih =>
    intro v4 v5 hf hv4 hv5 H locs ls hl w
    obtain ⟨o, hf, hk1, hk2⟩ := whl_step hf
    exact b_X11_harmOf_s263 X v1 hv1 (fun y4 y5 H locs ls eo hy4 hy5 hl w => ih y4 y5 (hk1 _ eo) hy4 hy5 hl w) (fun y4 y5 H locs ls eo hy4 hy5 hl w => HE y4 y5 H locs ls (hk2 _ eo).symm hy4 hy5 hl w) v4 hv4 v5 hv5 hf hl w
set_option maxRecDepth 100000 in
set_option maxHeartbeats 4000000 in
theorem b_X11_harmOf_j332 (X : CX p s m args c cX11_harmOf 8 RX11 D aC ad sg A H0) {M : Mem} {o : Int} (HR : ∀ (r : Int) (H : Heap) (locs : List Loc) (pc : Nat) (ls : Array Slot), o = r → inR r → WS D aC ad A H0 M H locs → decode cX11_harmOf pc = .ok (.ireturn, 1) → W p l e rm_X11_harmOf s m args below meth c H locs 0 0 Q (F0 m pc ls [.int (i2 r)])) (v1 : Int) (hv1 : inR v1) (v4 : Int) (hv4 : inR v4) (hf : f_X11_harmOf_j332 v1 v4 M = some o) {H : Heap} {locs : List Loc} {ls : Array Slot} (hl : lv_has ls 8 [(0, .ref (ad 80)), (1, .int (i2 v1)), (4, .int (i2 v4))]) (w : WS D aC ad A H0 M H locs) : W p l e rm_X11_harmOf s m args below meth c H locs 0 0 Q (F0 m 332 ls []) := by
  have hx := X.1.1
  have hb := X.1.2.1
  unfold f_X11_harmOf_j332 at hf
  refine lv_aload_n hx hb dX11_harmOf_332 rfl (lv_at hl 0 rfl) ?_
  refine g_getr X w fg_X11_66 KD_80 FR_80_24 dX11_harmOf_333 ?_
  refine lv_iload_n hx hb dX11_harmOf_336 rfl (lv_at hl 1 rfl) ?_
  obtain ⟨hg, hf⟩ := gd_some hf
  refine g_iald X w KD_98 hv1 hg dX11_harmOf_337 ?_
  refine lv_iload hx hb dX11_harmOf_338 (lv_at hl 2 rfl) ?_
  refine g_imul X dX11_harmOf_340 ?_
  exact HR (wrap ((M 98 v1.toNat) * v4)) _ _ _ _ (Option.some.inj hf).symm (inR_wrap _) w dX11_harmOf_341
set_option maxRecDepth 100000 in
set_option maxHeartbeats 4000000 in
theorem b_X11_harmOf_s357 (X : CX p s m args c cX11_harmOf 8 RX11 D aC ad sg A H0) (v1 : Int) (hv1 : inR v1) (v5 : Int) (hv5 : inR v5) {M : Mem} {o : (Int × Int) ⊕ (Int × Int)} (HC : ∀ (y4 : Int) (y6 : Int) (H : Heap) (locs : List Loc) (ls : Array Slot), o = .inl (y4, y6) → inR y4 → inR y6 → lv_has ls 8 [(0, .ref (ad 80)), (1, .int (i2 v1)), (4, .int (i2 y4)), (5, .int (i2 v5)), (6, .int (i2 y6))] → WS D aC ad A H0 M H locs → W p l e rm_X11_harmOf s m args below meth c H locs 0 0 Q (F0 m 357 ls [])) (HE : ∀ (y4 : Int) (y6 : Int) (H : Heap) (locs : List Loc) (ls : Array Slot), o = .inr (y4, y6) → inR y4 → inR y6 → lv_has ls 8 [(0, .ref (ad 80)), (1, .int (i2 v1)), (4, .int (i2 y4)), (5, .int (i2 v5)), (6, .int (i2 y6))] → WS D aC ad A H0 M H locs → W p l e rm_X11_harmOf s m args below meth c H locs 0 0 Q (F0 m 420 ls [])) (v4 : Int) (hv4 : inR v4) (v6 : Int) (hv6 : inR v6) (hf : f_X11_harmOf_s357 v1 v5 M v4 v6 = some o) {H : Heap} {locs : List Loc} {ls : Array Slot} (hl : lv_has ls 8 [(0, .ref (ad 80)), (1, .int (i2 v1)), (4, .int (i2 v4)), (5, .int (i2 v5)), (6, .int (i2 v6))]) (w : WS D aC ad A H0 M H locs) : W p l e rm_X11_harmOf s m args below meth c H locs 0 0 Q (F0 m 357 ls []) := by
  have hx := X.1.1
  have hb := X.1.2.1
  unfold f_X11_harmOf_s357 at hf
  refine lv_iload hx hb dX11_harmOf_357 (lv_at hl 4 rfl) ?_
  refine lv_iload hx hb dX11_harmOf_359 (lv_at hl 3 rfl) ?_
  refine g_icmp_ge (tgt := 420) X hv6 hv5 dX11_harmOf_361 (by decide) (fun cd => ?_) (fun cd => ?_)
  · replace hf := ite_t cd hf
    exact HE v4 v6 _ _ _ (Option.some.inj hf).symm hv4 hv6 hl w
  · replace hf := ite_f cd hf
    refine lv_iload hx hb dX11_harmOf_364 (lv_at hl 2 rfl) ?_
    refine lv_aload_n hx hb dX11_harmOf_366 rfl (lv_at hl 0 rfl) ?_
    refine g_getr X w fg_X11_100 KD_80 FR_80_41 dX11_harmOf_367 ?_
    refine lv_iload hx hb dX11_harmOf_370 (lv_at hl 3 rfl) ?_
    obtain ⟨hg, hf⟩ := gd_some hf
    refine g_iald X w KD_108 hv5 hg dX11_harmOf_372 ?_
    refine g_iconst X dX11_harmOf_373 ?_
    refine g_icmp_eq (tgt := 410) X (w.2.2 _ _) (inL rfl) dX11_harmOf_374 (by decide) (fun cd_2 => ?_) (fun cd_2 => ?_)
    · replace hf := ite_t cd_2 hf
      refine g_iconst X dX11_harmOf_410 ?_
      refine g_iadd X dX11_harmOf_411 ?_
      obtain ⟨v4_2, ev4_2, hf⟩ := lt_some hf
      have hv4_2 : inR v4_2 := inR_of ev4_2 (inR_wrap _)
      refine g_ist (v := v4_2) (lv' := [(4, .int (i2 v4_2)), (0, .ref (ad 80)), (1, .int (i2 v1)), (5, .int (i2 v5)), (6, .int (i2 v6))]) X ev4_2 dX11_harmOf_412 hl (by decide) rfl (fun ls hl => ?_)
      obtain ⟨v6_2, ev6_2, hf⟩ := lt_some hf
      have hv6_2 : inR v6_2 := inR_of ev6_2 (inR_wrap _)
      refine lv_iinc (v := i2 v6_2) (lv' := [(6, .int (i2 v6_2)), (4, .int (i2 v4_2)), (0, .ref (ad 80)), (1, .int (i2 v1)), (5, .int (i2 v5))]) hx hb dX11_harmOf_414 hl (k := 4) rfl (by rw [ev6_2]; exact i2_add _ _) (by decide) rfl (fun ls hl => ?_)
      refine lv_goto (tgt := 357) hx hb dX11_harmOf_417 (by decide) ?_
      exact HC v4_2 v6_2 _ _ _ (Option.some.inj hf).symm hv4_2 hv6_2 (lv_sub hl [2, 3, 1, 4, 0] rfl) w
    · replace hf := ite_f cd_2 hf
      refine lv_aload_n hx hb dX11_harmOf_377 rfl (lv_at hl 0 rfl) ?_
      refine g_getr X w fg_X11_100 KD_80 FR_80_41 dX11_harmOf_378 ?_
      refine lv_iload hx hb dX11_harmOf_381 (lv_at hl 3 rfl) ?_
      obtain ⟨hg_2, hf⟩ := gd_some hf
      refine g_iald X w KD_108 hv5 hg_2 dX11_harmOf_383 ?_
      refine lv_aload_n hx hb dX11_harmOf_384 rfl (lv_at hl 0 rfl) ?_
      refine g_getr X w fg_X11_100 KD_80 FR_80_41 dX11_harmOf_385 ?_
      refine lv_iload hx hb dX11_harmOf_388 (lv_at hl 4 rfl) ?_
      obtain ⟨hg_3, hf⟩ := gd_some hf
      refine g_iald X w KD_108 hv6 hg_3 dX11_harmOf_390 ?_
      refine g_icmp_ne (tgt := 410) X (w.2.2 _ _) (w.2.2 _ _) dX11_harmOf_391 (by decide) (fun cd_3 => ?_) (fun cd_3 => ?_)
      · replace hf := ite_f cd_3 hf
        refine g_iconst X dX11_harmOf_410 ?_
        refine g_iadd X dX11_harmOf_411 ?_
        obtain ⟨v4_3, ev4_3, hf⟩ := lt_some hf
        have hv4_3 : inR v4_3 := inR_of ev4_3 (inR_wrap _)
        refine g_ist (v := v4_3) (lv' := [(4, .int (i2 v4_3)), (0, .ref (ad 80)), (1, .int (i2 v1)), (5, .int (i2 v5)), (6, .int (i2 v6))]) X ev4_3 dX11_harmOf_412 hl (by decide) rfl (fun ls hl => ?_)
        obtain ⟨v6_3, ev6_3, hf⟩ := lt_some hf
        have hv6_3 : inR v6_3 := inR_of ev6_3 (inR_wrap _)
        refine lv_iinc (v := i2 v6_3) (lv' := [(6, .int (i2 v6_3)), (4, .int (i2 v4_3)), (0, .ref (ad 80)), (1, .int (i2 v1)), (5, .int (i2 v5))]) hx hb dX11_harmOf_414 hl (k := 4) rfl (by rw [ev6_3]; exact i2_add _ _) (by decide) rfl (fun ls hl => ?_)
        refine lv_goto (tgt := 357) hx hb dX11_harmOf_417 (by decide) ?_
        exact HC v4_3 v6_3 _ _ _ (Option.some.inj hf).symm hv4_3 hv6_3 (lv_sub hl [2, 3, 1, 4, 0] rfl) w
      · replace hf := ite_t cd_3 hf
        refine lv_aload_n hx hb dX11_harmOf_394 rfl (lv_at hl 0 rfl) ?_
        refine g_getr X w fg_X11_28 KD_80 FR_80_8 dX11_harmOf_395 ?_
        refine g_bipush X dX11_harmOf_398 (by decide) ?_
        refine lv_iload hx hb dX11_harmOf_400 (lv_at hl 3 rfl) ?_
        refine g_imul X dX11_harmOf_402 ?_
        refine lv_iload hx hb dX11_harmOf_403 (lv_at hl 4 rfl) ?_
        refine g_iadd X dX11_harmOf_405 ?_
        obtain ⟨hg_4, hf⟩ := gd_some hf
        refine g_iald X w KD_87 (inR_wrap _) hg_4 dX11_harmOf_406 ?_
        refine lv_goto (tgt := 411) hx hb dX11_harmOf_407 (by decide) ?_
        refine g_iadd X dX11_harmOf_411 ?_
        obtain ⟨v4_4, ev4_4, hf⟩ := lt_some hf
        have hv4_4 : inR v4_4 := inR_of ev4_4 (inR_wrap _)
        refine g_ist (v := v4_4) (lv' := [(4, .int (i2 v4_4)), (0, .ref (ad 80)), (1, .int (i2 v1)), (5, .int (i2 v5)), (6, .int (i2 v6))]) X ev4_4 dX11_harmOf_412 hl (by decide) rfl (fun ls hl => ?_)
        obtain ⟨v6_4, ev6_4, hf⟩ := lt_some hf
        have hv6_4 : inR v6_4 := inR_of ev6_4 (inR_wrap _)
        refine lv_iinc (v := i2 v6_4) (lv' := [(6, .int (i2 v6_4)), (4, .int (i2 v4_4)), (0, .ref (ad 80)), (1, .int (i2 v1)), (5, .int (i2 v5))]) hx hb dX11_harmOf_414 hl (k := 4) rfl (by rw [ev6_4]; exact i2_add _ _) (by decide) rfl (fun ls hl => ?_)
        refine lv_goto (tgt := 357) hx hb dX11_harmOf_417 (by decide) ?_
        exact HC v4_4 v6_4 _ _ _ (Option.some.inj hf).symm hv4_4 hv6_4 (lv_sub hl [2, 3, 1, 4, 0] rfl) w
set_option maxRecDepth 100000 in
set_option maxHeartbeats 4000000 in
theorem l_X11_harmOf_357 (X : CX p s m args c cX11_harmOf 8 RX11 D aC ad sg A H0) (v1 : Int) (hv1 : inR v1) (v5 : Int) (hv5 : inR v5) {M : Mem} {out : Int × Int} (HE : ∀ (y4 : Int) (y6 : Int) (H : Heap) (locs : List Loc) (ls : Array Slot), out = (y4, y6) → inR y4 → inR y6 → lv_has ls 8 [(0, .ref (ad 80)), (1, .int (i2 v1)), (4, .int (i2 y4)), (5, .int (i2 v5)), (6, .int (i2 y6))] → WS D aC ad A H0 M H locs → W p l e rm_X11_harmOf s m args below meth c H locs 0 0 Q (F0 m 420 ls [])) : ∀ (n : Nat) (v4 : Int) (v6 : Int), whl (fun s => f_X11_harmOf_s357 v1 v5 M s.1 s.2) n (v4, v6) = some out → inR v4 → inR v6 → ∀ {H : Heap} {locs : List Loc} {ls : Array Slot}, lv_has ls 8 [(0, .ref (ad 80)), (1, .int (i2 v1)), (4, .int (i2 v4)), (5, .int (i2 v5)), (6, .int (i2 v6))] → WS D aC ad A H0 M H locs → W p l e rm_X11_harmOf s m args below meth c H locs 0 0 Q (F0 m 357 ls []) := by
  intro n
  induction n with
  | zero => intro v4 v6 hf; exact (whl_zero hf).elim
  | succ n ih =>
    intro v4 v6 hf hv4 hv6 H locs ls hl w
    obtain ⟨o, hf, hk1, hk2⟩ := whl_step hf
    exact b_X11_harmOf_s357 X v1 hv1 v5 hv5 (fun y4 y6 H locs ls eo hy4 hy6 hl w => ih y4 y6 (hk1 _ eo) hy4 hy6 hl w) (fun y4 y6 H locs ls eo hy4 hy6 hl w => HE y4 y6 H locs ls (hk2 _ eo).symm hy4 hy6 hl w) v4 hv4 v6 hv6 hf hl w
set_option maxRecDepth 100000 in
set_option maxHeartbeats 4000000 in
theorem b_X11_harmOf_j420k345 (X : CX p s m args c cX11_harmOf 8 RX11 D aC ad sg A H0) (v1 : Int) (hv1 : inR v1) {M : Mem} {o : (Int × Int) ⊕ (Int × Int)} (HC : ∀ (y4 : Int) (y5 : Int) (H : Heap) (locs : List Loc) (ls : Array Slot), o = .inl (y4, y5) → inR y4 → inR y5 → lv_has ls 8 [(0, .ref (ad 80)), (1, .int (i2 v1)), (4, .int (i2 y4)), (5, .int (i2 y5))] → WS D aC ad A H0 M H locs → W p l e rm_X11_harmOf s m args below meth c H locs 0 0 Q (F0 m 345 ls [])) (HE : ∀ (y4 : Int) (y5 : Int) (H : Heap) (locs : List Loc) (ls : Array Slot), o = .inr (y4, y5) → inR y4 → inR y5 → lv_has ls 8 [(0, .ref (ad 80)), (1, .int (i2 v1)), (4, .int (i2 y4)), (5, .int (i2 y5))] → WS D aC ad A H0 M H locs → W p l e rm_X11_harmOf s m args below meth c H locs 0 0 Q (F0 m 426 ls [])) (v4 : Int) (hv4 : inR v4) (v5 : Int) (hv5 : inR v5) (hf : f_X11_harmOf_j420k345 v1 v4 v5 M = some o) {H : Heap} {locs : List Loc} {ls : Array Slot} (hl : lv_has ls 8 [(0, .ref (ad 80)), (1, .int (i2 v1)), (4, .int (i2 v4)), (5, .int (i2 v5))]) (w : WS D aC ad A H0 M H locs) : W p l e rm_X11_harmOf s m args below meth c H locs 0 0 Q (F0 m 420 ls []) := by
  have hx := X.1.1
  have hb := X.1.2.1
  unfold f_X11_harmOf_j420k345 at hf
  obtain ⟨v5_2, ev5_2, hf⟩ := lt_some hf
  have hv5_2 : inR v5_2 := inR_of ev5_2 (inR_wrap _)
  refine lv_iinc (v := i2 v5_2) (lv' := [(5, .int (i2 v5_2)), (0, .ref (ad 80)), (1, .int (i2 v1)), (4, .int (i2 v4))]) hx hb dX11_harmOf_420 hl (k := 3) rfl (by rw [ev5_2]; exact i2_add _ _) (by decide) rfl (fun ls hl => ?_)
  refine lv_goto (tgt := 345) hx hb dX11_harmOf_423 (by decide) ?_
  exact HC v4 v5_2 _ _ _ (Option.some.inj hf).symm hv4 hv5_2 (lv_sub hl [1, 2, 3, 0] rfl) w
set_option maxRecDepth 100000 in
set_option maxHeartbeats 4000000 in
theorem b_X11_harmOf_s345 (X : CX p s m args c cX11_harmOf 8 RX11 D aC ad sg A H0) (v1 : Int) (hv1 : inR v1) {M : Mem} {o : (Int × Int) ⊕ (Int × Int)} (HC : ∀ (y4 : Int) (y5 : Int) (H : Heap) (locs : List Loc) (ls : Array Slot), o = .inl (y4, y5) → inR y4 → inR y5 → lv_has ls 8 [(0, .ref (ad 80)), (1, .int (i2 v1)), (4, .int (i2 y4)), (5, .int (i2 y5))] → WS D aC ad A H0 M H locs → W p l e rm_X11_harmOf s m args below meth c H locs 0 0 Q (F0 m 345 ls [])) (HE : ∀ (y4 : Int) (y5 : Int) (H : Heap) (locs : List Loc) (ls : Array Slot), o = .inr (y4, y5) → inR y4 → inR y5 → lv_has ls 8 [(0, .ref (ad 80)), (1, .int (i2 v1)), (4, .int (i2 y4)), (5, .int (i2 y5))] → WS D aC ad A H0 M H locs → W p l e rm_X11_harmOf s m args below meth c H locs 0 0 Q (F0 m 426 ls [])) (v4 : Int) (hv4 : inR v4) (v5 : Int) (hv5 : inR v5) (hf : f_X11_harmOf_s345 v1 M v4 v5 = some o) {H : Heap} {locs : List Loc} {ls : Array Slot} (hl : lv_has ls 8 [(0, .ref (ad 80)), (1, .int (i2 v1)), (4, .int (i2 v4)), (5, .int (i2 v5))]) (w : WS D aC ad A H0 M H locs) : W p l e rm_X11_harmOf s m args below meth c H locs 0 0 Q (F0 m 345 ls []) := by
  have hx := X.1.1
  have hb := X.1.2.1
  unfold f_X11_harmOf_s345 at hf
  refine lv_iload hx hb dX11_harmOf_345 (lv_at hl 3 rfl) ?_
  refine lv_aload_n hx hb dX11_harmOf_347 rfl (lv_at hl 0 rfl) ?_
  refine g_geti X w fg_X11_142 KD_80 FR_80_1 dX11_harmOf_348 ?_
  refine g_icmp_ge (tgt := 426) X hv5 (w.2.2 _ _) dX11_harmOf_351 (by decide) (fun cd => ?_) (fun cd => ?_)
  · replace hf := ite_t cd hf
    exact HE v4 v5 _ _ _ (Option.some.inj hf).symm hv4 hv5 hl w
  · replace hf := ite_f cd hf
    refine g_iconst X dX11_harmOf_354 ?_
    refine g_ist (v := 0) (lv' := [(6, .int (i2 0)), (0, .ref (ad 80)), (1, .int (i2 v1)), (4, .int (i2 v4)), (5, .int (i2 v5))]) X rfl dX11_harmOf_355 hl (by decide) rfl (fun ls hl => ?_)
    obtain ⟨q, hq, h1⟩ := obn_some hf
    exact l_X11_harmOf_357 X v1 hv1 v5 hv5 (out := q) (fun y4 y6 H locs ls eq hy4 hy6 hl w => b_X11_harmOf_j420k345 X v1 hv1 HC HE y4 hy4 v5 hv5 (by subst eq; exact h1) (lv_sub hl [0, 1, 2, 3] rfl) w)  FU v4 0 hq hv4 (inL rfl) (lv_sub hl [1, 2, 3, 4, 0] rfl) w
set_option maxRecDepth 100000 in
set_option maxHeartbeats 4000000 in
theorem l_X11_harmOf_345 (X : CX p s m args c cX11_harmOf 8 RX11 D aC ad sg A H0) (v1 : Int) (hv1 : inR v1) {M : Mem} {out : Int × Int} (HE : ∀ (y4 : Int) (y5 : Int) (H : Heap) (locs : List Loc) (ls : Array Slot), out = (y4, y5) → inR y4 → inR y5 → lv_has ls 8 [(0, .ref (ad 80)), (1, .int (i2 v1)), (4, .int (i2 y4)), (5, .int (i2 y5))] → WS D aC ad A H0 M H locs → W p l e rm_X11_harmOf s m args below meth c H locs 0 0 Q (F0 m 426 ls [])) : ∀ (n : Nat) (v4 : Int) (v5 : Int), whl (fun s => f_X11_harmOf_s345 v1 M s.1 s.2) n (v4, v5) = some out → inR v4 → inR v5 → ∀ {H : Heap} {locs : List Loc} {ls : Array Slot}, lv_has ls 8 [(0, .ref (ad 80)), (1, .int (i2 v1)), (4, .int (i2 v4)), (5, .int (i2 v5))] → WS D aC ad A H0 M H locs → W p l e rm_X11_harmOf s m args below meth c H locs 0 0 Q (F0 m 345 ls []) := by
  intro n
  induction n with
  | zero => intro v4 v5 hf; exact (whl_zero hf).elim
  | succ n ih =>
    intro v4 v5 hf hv4 hv5 H locs ls hl w
    obtain ⟨o, hf, hk1, hk2⟩ := whl_step hf
    exact b_X11_harmOf_s345 X v1 hv1 (fun y4 y5 H locs ls eo hy4 hy5 hl w => ih y4 y5 (hk1 _ eo) hy4 hy5 hl w) (fun y4 y5 H locs ls eo hy4 hy5 hl w => HE y4 y5 H locs ls (hk2 _ eo).symm hy4 hy5 hl w) v4 hv4 v5 hv5 hf hl w
set_option maxRecDepth 100000 in
set_option maxHeartbeats 4000000 in
theorem b_X11_harmOf_j426 (X : CX p s m args c cX11_harmOf 8 RX11 D aC ad sg A H0) {M : Mem} {o : Int} (HR : ∀ (r : Int) (H : Heap) (locs : List Loc) (pc : Nat) (ls : Array Slot), o = r → inR r → WS D aC ad A H0 M H locs → decode cX11_harmOf pc = .ok (.ireturn, 1) → W p l e rm_X11_harmOf s m args below meth c H locs 0 0 Q (F0 m pc ls [.int (i2 r)])) (v1 : Int) (hv1 : inR v1) (v4 : Int) (hv4 : inR v4) (hf : f_X11_harmOf_j426 v1 v4 M = some o) {H : Heap} {locs : List Loc} {ls : Array Slot} (hl : lv_has ls 8 [(0, .ref (ad 80)), (1, .int (i2 v1)), (4, .int (i2 v4))]) (w : WS D aC ad A H0 M H locs) : W p l e rm_X11_harmOf s m args below meth c H locs 0 0 Q (F0 m 426 ls []) := by
  have hx := X.1.1
  have hb := X.1.2.1
  unfold f_X11_harmOf_j426 at hf
  refine lv_aload_n hx hb dX11_harmOf_426 rfl (lv_at hl 0 rfl) ?_
  refine g_getr X w fg_X11_66 KD_80 FR_80_24 dX11_harmOf_427 ?_
  refine lv_iload_n hx hb dX11_harmOf_430 rfl (lv_at hl 1 rfl) ?_
  obtain ⟨hg, hf⟩ := gd_some hf
  refine g_iald X w KD_98 hv1 hg dX11_harmOf_431 ?_
  refine lv_iload hx hb dX11_harmOf_432 (lv_at hl 2 rfl) ?_
  refine g_imul X dX11_harmOf_434 ?_
  exact HR (wrap ((M 98 v1.toNat) * v4)) _ _ _ _ (Option.some.inj hf).symm (inR_wrap _) w dX11_harmOf_435
set_option maxRecDepth 100000 in
set_option maxHeartbeats 4000000 in
theorem b_X11_harmOf_0 (X : CX p s m args c cX11_harmOf 8 RX11 D aC ad sg A H0) {M : Mem} {o : Int} (HR : ∀ (r : Int) (H : Heap) (locs : List Loc) (pc : Nat) (ls : Array Slot), o = r → inR r → WS D aC ad A H0 M H locs → decode cX11_harmOf pc = .ok (.ireturn, 1) → W p l e rm_X11_harmOf s m args below meth c H locs 0 0 Q (F0 m pc ls [.int (i2 r)])) (p1 : Int) (hp1 : inR p1) (hf : f_X11_harmOf p1 M = some o) {H : Heap} {locs : List Loc} {ls : Array Slot} (hl : lv_has ls 8 [(0, .ref (ad 80)), (1, .int (i2 p1))]) (w : WS D aC ad A H0 M H locs) : W p l e rm_X11_harmOf s m args below meth c H locs 0 0 Q (F0 m 0 ls []) := by
  have hx := X.1.1
  have hb := X.1.2.1
  unfold f_X11_harmOf at hf
  refine g_ldcw X kc_X11_336 dX11_harmOf_0 ?_
  refine g_istn (v := 1000000000) (lv' := [(2, .int (i2 1000000000)), (0, .ref (ad 80)), (1, .int (i2 p1))]) X rfl dX11_harmOf_3 rfl hl (by decide) rfl (fun ls hl => ?_)
  refine g_iconst X dX11_harmOf_4 ?_
  refine g_istn (v := 0) (lv' := [(3, .int (i2 0)), (2, .int (i2 1000000000)), (0, .ref (ad 80)), (1, .int (i2 p1))]) X rfl dX11_harmOf_5 rfl hl (by decide) rfl (fun ls hl => ?_)
  refine g_iconst X dX11_harmOf_6 ?_
  refine g_ist (v := 0) (lv' := [(4, .int (i2 0)), (3, .int (i2 0)), (2, .int (i2 1000000000)), (0, .ref (ad 80)), (1, .int (i2 p1))]) X rfl dX11_harmOf_7 hl (by decide) rfl (fun ls hl => ?_)
  refine lv_aload_n hx hb dX11_harmOf_9 rfl (lv_at hl 3 rfl) ?_
  refine g_getr X w fg_X11_63 KD_80 FR_80_23 dX11_harmOf_10 ?_
  refine lv_iload_n hx hb dX11_harmOf_13 rfl (lv_at hl 4 rfl) ?_
  obtain ⟨hg, hf⟩ := gd_some hf
  refine g_iald X w KD_97 hp1 hg dX11_harmOf_14 ?_
  by_cases cd : (M 97 p1.toNat) < 0 ∨ 4 < (M 97 p1.toNat)
  · replace hf := ite_t cd hf
    refine g_tout (tgt := 436) X (w.2.2 _ _) cd dX11_harmOf_15 (by decide) ?_
    refine g_iconst X dX11_harmOf_436 ?_
    exact HR 0 _ _ _ _ (Option.some.inj hf).symm (inL rfl) w dX11_harmOf_437
  · replace hf := ite_f cd hf
    by_cases cd_2 : (M 97 p1.toNat) = 0
    · replace hf := ite_t cd_2 hf
      refine g_tin (tgt := 48) (k := 0) (off := 33) X cd_2 (w.2.2 _ _) (by decide) (by decide) (by rfl) dX11_harmOf_15 (by decide) ?_
      refine g_iconst X dX11_harmOf_48 ?_
      refine g_ist (v := 0) (lv' := [(5, .int (i2 0)), (4, .int (i2 0)), (3, .int (i2 0)), (2, .int (i2 1000000000)), (0, .ref (ad 80)), (1, .int (i2 p1))]) X rfl dX11_harmOf_49 hl (by decide) rfl (fun ls hl => ?_)
      obtain ⟨q, hq, h1⟩ := obn_some hf
      exact l_X11_harmOf_51 X p1 hp1 (out := q) (fun y2 y3 y5 H locs ls eq hy2 hy3 hy5 hl w => b_X11_harmOf_j182 X  HR p1 hp1 y2 hy2 y3 hy3 (by subst eq; exact h1) (lv_sub hl [0, 1, 2, 3] rfl) w)  FU 1000000000 0 0 hq (inL rfl) (inL rfl) (inL rfl) (lv_sub hl [4, 5, 3, 2, 0] rfl) w
    · replace hf := ite_f cd_2 hf
      by_cases cd_3 : (M 97 p1.toNat) = 1
      · replace hf := ite_t cd_3 hf
        refine g_tin (tgt := 48) (k := 1) (off := 33) X cd_3 (w.2.2 _ _) (by decide) (by decide) (by rfl) dX11_harmOf_15 (by decide) ?_
        refine g_iconst X dX11_harmOf_48 ?_
        refine g_ist (v := 0) (lv' := [(5, .int (i2 0)), (4, .int (i2 0)), (3, .int (i2 0)), (2, .int (i2 1000000000)), (0, .ref (ad 80)), (1, .int (i2 p1))]) X rfl dX11_harmOf_49 hl (by decide) rfl (fun ls hl => ?_)
        obtain ⟨q, hq, h1⟩ := obn_some hf
        exact l_X11_harmOf_51 X p1 hp1 (out := q) (fun y2 y3 y5 H locs ls eq hy2 hy3 hy5 hl w => b_X11_harmOf_j182 X  HR p1 hp1 y2 hy2 y3 hy3 (by subst eq; exact h1) (lv_sub hl [0, 1, 2, 3] rfl) w)  FU 1000000000 0 0 hq (inL rfl) (inL rfl) (inL rfl) (lv_sub hl [4, 5, 3, 2, 0] rfl) w
      · replace hf := ite_f cd_3 hf
        by_cases cd_4 : (M 97 p1.toNat) = 2
        · replace hf := ite_t cd_4 hf
          refine g_tin (tgt := 193) (k := 2) (off := 178) X cd_4 (w.2.2 _ _) (by decide) (by decide) (by rfl) dX11_harmOf_15 (by decide) ?_
          refine g_iconst X dX11_harmOf_193 ?_
          refine g_ist (v := 0) (lv' := [(5, .int (i2 0)), (4, .int (i2 0)), (3, .int (i2 0)), (2, .int (i2 1000000000)), (0, .ref (ad 80)), (1, .int (i2 p1))]) X rfl dX11_harmOf_194 hl (by decide) rfl (fun ls hl => ?_)
          obtain ⟨q, hq, h1⟩ := obn_some hf
          exact l_X11_harmOf_196 X p1 hp1 (out := q) (fun y4 y5 H locs ls eq hy4 hy5 hl w => b_X11_harmOf_j250 X  HR p1 hp1 y4 hy4 (by subst eq; exact h1) (lv_sub hl [0, 1, 2] rfl) w)  FU 0 0 hq (inL rfl) (inL rfl) (lv_sub hl [4, 5, 1, 0] rfl) w
        · replace hf := ite_f cd_4 hf
          by_cases cd_5 : (M 97 p1.toNat) = 3
          · replace hf := ite_t cd_5 hf
            refine g_tin (tgt := 260) (k := 3) (off := 245) X cd_5 (w.2.2 _ _) (by decide) (by decide) (by rfl) dX11_harmOf_15 (by decide) ?_
            refine g_iconst X dX11_harmOf_260 ?_
            refine g_ist (v := 0) (lv' := [(5, .int (i2 0)), (4, .int (i2 0)), (3, .int (i2 0)), (2, .int (i2 1000000000)), (0, .ref (ad 80)), (1, .int (i2 p1))]) X rfl dX11_harmOf_261 hl (by decide) rfl (fun ls hl => ?_)
            obtain ⟨q, hq, h1⟩ := obn_some hf
            exact l_X11_harmOf_263 X p1 hp1 (out := q) (fun y4 y5 H locs ls eq hy4 hy5 hl w => b_X11_harmOf_j332 X  HR p1 hp1 y4 hy4 (by subst eq; exact h1) (lv_sub hl [0, 1, 2] rfl) w)  FU 0 0 hq (inL rfl) (inL rfl) (lv_sub hl [4, 5, 1, 0] rfl) w
          · replace hf := ite_f cd_5 hf
            by_cases cd_6 : (M 97 p1.toNat) = 4
            · replace hf := ite_t cd_6 hf
              refine g_tin (tgt := 342) (k := 4) (off := 327) X cd_6 (w.2.2 _ _) (by decide) (by decide) (by rfl) dX11_harmOf_15 (by decide) ?_
              refine g_iconst X dX11_harmOf_342 ?_
              refine g_ist (v := 0) (lv' := [(5, .int (i2 0)), (4, .int (i2 0)), (3, .int (i2 0)), (2, .int (i2 1000000000)), (0, .ref (ad 80)), (1, .int (i2 p1))]) X rfl dX11_harmOf_343 hl (by decide) rfl (fun ls hl => ?_)
              obtain ⟨q, hq, h1⟩ := obn_some hf
              exact l_X11_harmOf_345 X p1 hp1 (out := q) (fun y4 y5 H locs ls eq hy4 hy5 hl w => b_X11_harmOf_j426 X  HR p1 hp1 y4 hy4 (by subst eq; exact h1) (lv_sub hl [0, 1, 2] rfl) w)  FU 0 0 hq (inL rfl) (inL rfl) (lv_sub hl [4, 5, 1, 0] rfl) w
            · replace hf := ite_f cd_6 hf
              cases hf
set_option maxRecDepth 100000 in
set_option maxHeartbeats 4000000 in
theorem k_X11_harmOf {l : Launch} {D : va_G} {aC : Nat → ClassId} {ad : Nat → Nat} {sg : SG} (hi : Inj ad) (p1 : Int) (hp1 : inR p1) {M : Mem} (hM : inM M) {r : Int} (hf : f_X11_harmOf p1 M = some r) : MetI l D aC ad sg yX11_harmOf cX11_harmOf 8 (some .int) rm_X11_harmOf 0 0 [.ref (ad 80), .int (i2 p1)] M r M := by
  refine MetI.ofI (by decide +kernel) (nle rfl) hi hM (fun p e s m args below meth c Q H0 ls X hl w hret => ?_)
  exact b_X11_harmOf_0 X  (fun r1 H locs pc ls eo hP w dg => by cases eo; exact hret H locs pc ls hP w dg) p1 hp1 hf hl w
set_option maxRecDepth 100000 in
set_option maxHeartbeats 4000000 in
theorem b_X11_allHarm_s4 (X : CX p s m args c cX11_allHarm 3 RX11 D aC ad sg A H0) {M : Mem} {o : (Int × Int) ⊕ (Int × Int)} (HC : ∀ (y1 : Int) (y2 : Int) (H : Heap) (locs : List Loc) (ls : Array Slot), o = .inl (y1, y2) → inR y1 → inR y2 → lv_has ls 3 [(0, .ref (ad 80)), (1, .int (i2 y1)), (2, .int (i2 y2))] → WS D aC ad A H0 M H locs → W p l e rm_X11_allHarm s m args below meth c H locs 0 0 Q (F0 m 4 ls [])) (HE : ∀ (y1 : Int) (y2 : Int) (H : Heap) (locs : List Loc) (ls : Array Slot), o = .inr (y1, y2) → inR y1 → inR y2 → lv_has ls 3 [(0, .ref (ad 80)), (1, .int (i2 y1)), (2, .int (i2 y2))] → WS D aC ad A H0 M H locs → W p l e rm_X11_allHarm s m args below meth c H locs 0 0 Q (F0 m 26 ls [])) (v1 : Int) (hv1 : inR v1) (v2 : Int) (hv2 : inR v2) (hf : f_X11_allHarm_s4 M v1 v2 = some o) {H : Heap} {locs : List Loc} {ls : Array Slot} (hl : lv_has ls 3 [(0, .ref (ad 80)), (1, .int (i2 v1)), (2, .int (i2 v2))]) (w : WS D aC ad A H0 M H locs) : W p l e rm_X11_allHarm s m args below meth c H locs 0 0 Q (F0 m 4 ls []) := by
  have hx := X.1.1
  have hb := X.1.2.1
  unfold f_X11_allHarm_s4 at hf
  refine lv_iload_n hx hb dX11_allHarm_4 rfl (lv_at hl 2 rfl) ?_
  refine lv_aload_n hx hb dX11_allHarm_5 rfl (lv_at hl 0 rfl) ?_
  refine g_geti X w fg_X11_307 KD_80 FR_80_21 dX11_allHarm_6 ?_
  refine g_icmp_ge (tgt := 26) X hv2 (w.2.2 _ _) dX11_allHarm_9 (by decide) (fun cd => ?_) (fun cd => ?_)
  · replace hf := ite_t cd hf
    exact HE v1 v2 _ _ _ (Option.some.inj hf).symm hv1 hv2 hl w
  · replace hf := ite_f cd hf
    refine lv_iload_n hx hb dX11_allHarm_12 rfl (lv_at hl 1 rfl) ?_
    refine lv_aload_n hx hb dX11_allHarm_13 rfl (lv_at hl 0 rfl) ?_
    refine lv_iload_n hx hb dX11_allHarm_14 rfl (lv_at hl 2 rfl) ?_
    obtain ⟨r, hc, hf⟩ := obn_some hf
    refine g_cvi (As := [.int (i2 v2)]) (rest := [.int (i2 v1)]) X w (k_X11_harmOf X.2.2.1 v2 hv2 w.2.2 hc) lk_X11_340 cl_11 KD_80 ⟨rfl, rfl⟩ ⟨nle rfl, nle rfl⟩ ⟨nle rfl, nle rfl⟩ hl.1 rfl (nle rfl) dX11_allHarm_15 (fun hr H locs w => ?_)
    refine g_iadd X dX11_allHarm_18 ?_
    obtain ⟨v1_2, ev1_2, hf⟩ := lt_some hf
    have hv1_2 : inR v1_2 := inR_of ev1_2 (inR_wrap _)
    refine g_istn (v := v1_2) (lv' := [(1, .int (i2 v1_2)), (0, .ref (ad 80)), (2, .int (i2 v2))]) X ev1_2 dX11_allHarm_19 rfl hl (by decide) rfl (fun ls hl => ?_)
    obtain ⟨v2_2, ev2_2, hf⟩ := lt_some hf
    have hv2_2 : inR v2_2 := inR_of ev2_2 (inR_wrap _)
    refine lv_iinc (v := i2 v2_2) (lv' := [(2, .int (i2 v2_2)), (1, .int (i2 v1_2)), (0, .ref (ad 80))]) hx hb dX11_allHarm_20 hl (k := 2) rfl (by rw [ev2_2]; exact i2_add _ _) (by decide) rfl (fun ls hl => ?_)
    refine lv_goto (tgt := 4) hx hb dX11_allHarm_23 (by decide) ?_
    exact HC v1_2 v2_2 _ _ _ (Option.some.inj hf).symm hv1_2 hv2_2 (lv_sub hl [2, 1, 0] rfl) w
set_option maxRecDepth 100000 in
set_option maxHeartbeats 4000000 in
theorem l_X11_allHarm_4 (X : CX p s m args c cX11_allHarm 3 RX11 D aC ad sg A H0) {M : Mem} {out : Int × Int} (HE : ∀ (y1 : Int) (y2 : Int) (H : Heap) (locs : List Loc) (ls : Array Slot), out = (y1, y2) → inR y1 → inR y2 → lv_has ls 3 [(0, .ref (ad 80)), (1, .int (i2 y1)), (2, .int (i2 y2))] → WS D aC ad A H0 M H locs → W p l e rm_X11_allHarm s m args below meth c H locs 0 0 Q (F0 m 26 ls [])) : ∀ (n : Nat) (v1 : Int) (v2 : Int), whl (fun s => f_X11_allHarm_s4 M s.1 s.2) n (v1, v2) = some out → inR v1 → inR v2 → ∀ {H : Heap} {locs : List Loc} {ls : Array Slot}, lv_has ls 3 [(0, .ref (ad 80)), (1, .int (i2 v1)), (2, .int (i2 v2))] → WS D aC ad A H0 M H locs → W p l e rm_X11_allHarm s m args below meth c H locs 0 0 Q (F0 m 4 ls []) := by
  intro n
  induction n with
  | zero => intro v1 v2 hf; exact (whl_zero hf).elim
  | succ n ih =>
    intro v1 v2 hf hv1 hv2 H locs ls hl w
    obtain ⟨o, hf, hk1, hk2⟩ := whl_step hf
    exact b_X11_allHarm_s4 X  (fun y1 y2 H locs ls eo hy1 hy2 hl w => ih y1 y2 (hk1 _ eo) hy1 hy2 hl w) (fun y1 y2 H locs ls eo hy1 hy2 hl w => HE y1 y2 H locs ls (hk2 _ eo).symm hy1 hy2 hl w) v1 hv1 v2 hv2 hf hl w
set_option maxRecDepth 100000 in
set_option maxHeartbeats 4000000 in
theorem b_X11_allHarm_j26 (X : CX p s m args c cX11_allHarm 3 RX11 D aC ad sg A H0) {M : Mem} {o : Int} (HR : ∀ (r : Int) (H : Heap) (locs : List Loc) (pc : Nat) (ls : Array Slot), o = r → inR r → WS D aC ad A H0 M H locs → decode cX11_allHarm pc = .ok (.ireturn, 1) → W p l e rm_X11_allHarm s m args below meth c H locs 0 0 Q (F0 m pc ls [.int (i2 r)])) (v1 : Int) (hv1 : inR v1) (hf : f_X11_allHarm_j26 v1 M = some o) {H : Heap} {locs : List Loc} {ls : Array Slot} (hl : lv_has ls 3 [(1, .int (i2 v1))]) (w : WS D aC ad A H0 M H locs) : W p l e rm_X11_allHarm s m args below meth c H locs 0 0 Q (F0 m 26 ls []) := by
  have hx := X.1.1
  have hb := X.1.2.1
  unfold f_X11_allHarm_j26 at hf
  refine lv_iload_n hx hb dX11_allHarm_26 rfl (lv_at hl 0 rfl) ?_
  exact HR v1 _ _ _ _ (Option.some.inj hf).symm hv1 w dX11_allHarm_27
set_option maxRecDepth 100000 in
set_option maxHeartbeats 4000000 in
theorem b_X11_allHarm_0 (X : CX p s m args c cX11_allHarm 3 RX11 D aC ad sg A H0) {M : Mem} {o : Int} (HR : ∀ (r : Int) (H : Heap) (locs : List Loc) (pc : Nat) (ls : Array Slot), o = r → inR r → WS D aC ad A H0 M H locs → decode cX11_allHarm pc = .ok (.ireturn, 1) → W p l e rm_X11_allHarm s m args below meth c H locs 0 0 Q (F0 m pc ls [.int (i2 r)])) (hf : f_X11_allHarm M = some o) {H : Heap} {locs : List Loc} {ls : Array Slot} (hl : lv_has ls 3 [(0, .ref (ad 80))]) (w : WS D aC ad A H0 M H locs) : W p l e rm_X11_allHarm s m args below meth c H locs 0 0 Q (F0 m 0 ls []) := by
  have hx := X.1.1
  have hb := X.1.2.1
  unfold f_X11_allHarm at hf
  refine g_iconst X dX11_allHarm_0 ?_
  refine g_istn (v := 0) (lv' := [(1, .int (i2 0)), (0, .ref (ad 80))]) X rfl dX11_allHarm_1 rfl hl (by decide) rfl (fun ls hl => ?_)
  refine g_iconst X dX11_allHarm_2 ?_
  refine g_istn (v := 0) (lv' := [(2, .int (i2 0)), (1, .int (i2 0)), (0, .ref (ad 80))]) X rfl dX11_allHarm_3 rfl hl (by decide) rfl (fun ls hl => ?_)
  obtain ⟨q, hq, h1⟩ := obn_some hf
  exact l_X11_allHarm_4 X  (out := q) (fun y1 y2 H locs ls eq hy1 hy2 hl w => b_X11_allHarm_j26 X  HR y1 hy1 (by subst eq; exact h1) (lv_sub hl [1] rfl) w)  FU 0 0 hq (inL rfl) (inL rfl) (lv_sub hl [2, 1, 0] rfl) w
set_option maxRecDepth 100000 in
set_option maxHeartbeats 4000000 in
theorem k_X11_allHarm {l : Launch} {D : va_G} {aC : Nat → ClassId} {ad : Nat → Nat} {sg : SG} (hi : Inj ad)  {M : Mem} (hM : inM M) {r : Int} (hf : f_X11_allHarm M = some r) : MetI l D aC ad sg yX11_allHarm cX11_allHarm 3 (some .int) rm_X11_allHarm 0 0 [.ref (ad 80)] M r M := by
  refine MetI.ofI (by decide +kernel) (nle rfl) hi hM (fun p e s m args below meth c Q H0 ls X hl w hret => ?_)
  exact b_X11_allHarm_0 X  (fun r1 H locs pc ls eo hP w dg => by cases eo; exact hret H locs pc ls hP w dg)  hf hl w
set_option maxRecDepth 100000 in
set_option maxHeartbeats 4000000 in
theorem b_X11_counts_s7 (X : CX p s m args c cX11_counts 2 RX11 D aC ad sg A H0) {o : (Int × Mem) ⊕ ((Int × Mem) ⊕ (Int × Mem))} (HC : ∀ (y1 : Int) (M1 : Mem) (H : Heap) (locs : List Loc) (ls : Array Slot), o = .inl (y1, M1) → inR y1 → lv_has ls 2 [(0, .ref (ad 80)), (1, .int (i2 y1))] → WS D aC ad A H0 M1 H locs → W p l e rm_X11_counts s m args below meth c H locs 0 0 Q (F0 m 7 ls [])) (HE : ∀ (y1 : Int) (M1 : Mem) (H : Heap) (locs : List Loc) (ls : Array Slot), o = .inr (.inl (y1, M1)) → inR y1 → lv_has ls 2 [(0, .ref (ad 80)), (1, .int (i2 y1))] → WS D aC ad A H0 M1 H locs → W p l e rm_X11_counts s m args below meth c H locs 0 0 Q (F0 m 62 ls [])) (HR : ∀ (r : Int) (M1 : Mem) (H : Heap) (locs : List Loc) (pc : Nat) (ls : Array Slot), o = .inr (.inr (r, M1)) → isZ r → WS D aC ad A H0 M1 H locs → decode cX11_counts pc = .ok (.ireturn, 1) → W p l e rm_X11_counts s m args below meth c H locs 0 0 Q (F0 m pc ls [.int (i2 r)])) (v1 : Int) (hv1 : inR v1) (M : Mem) (hf : f_X11_counts_s7 v1 M = some o) {H : Heap} {locs : List Loc} {ls : Array Slot} (hl : lv_has ls 2 [(0, .ref (ad 80)), (1, .int (i2 v1))]) (w : WS D aC ad A H0 M H locs) : W p l e rm_X11_counts s m args below meth c H locs 0 0 Q (F0 m 7 ls []) := by
  have hx := X.1.1
  have hb := X.1.2.1
  unfold f_X11_counts_s7 at hf
  refine lv_iload_n hx hb dX11_counts_7 rfl (lv_at hl 1 rfl) ?_
  refine g_if_lt (tgt := 62) X hv1 dX11_counts_8 (by decide) (fun cd => ?_) (fun cd => ?_)
  · replace hf := ite_t cd hf
    exact HE v1 M _ _ _ (Option.some.inj hf).symm hv1 hl w
  · replace hf := ite_f cd hf
    refine lv_aload_n hx hb dX11_counts_11 rfl (lv_at hl 0 rfl) ?_
    refine g_getr X w fg_X11_100 KD_80 FR_80_41 dX11_counts_12 ?_
    refine lv_iload_n hx hb dX11_counts_15 rfl (lv_at hl 1 rfl) ?_
    obtain ⟨hg, hf⟩ := gd_some hf
    refine g_iald X w KD_108 hv1 hg dX11_counts_16 ?_
    refine g_iconst X dX11_counts_17 ?_
    refine g_icmp_ne (tgt := 24) X (w.2.2 _ _) (inL rfl) dX11_counts_18 (by decide) (fun cd_2 => ?_) (fun cd_2 => ?_)
    · replace hf := ite_f cd_2 hf
      refine lv_aload_n hx hb dX11_counts_24 rfl (lv_at hl 0 rfl) ?_
      refine g_getr X w fg_X11_100 KD_80 FR_80_41 dX11_counts_25 ?_
      refine lv_iload_n hx hb dX11_counts_28 rfl (lv_at hl 1 rfl) ?_
      refine lv_dup2_11 hx hb dX11_counts_29 rfl rfl ?_
      obtain ⟨hg_2, hf⟩ := gd_some hf
      refine g_iald X w KD_108 hv1 hg_2 dX11_counts_30 ?_
      refine g_iconst X dX11_counts_31 ?_
      refine g_iadd X dX11_counts_32 ?_
      obtain ⟨hg_3, hf⟩ := gd_some hf
      obtain ⟨M_2, eM_2, hf⟩ := lt_some hf
      refine g_iast X w KD_108 hv1 hg_3 (inR_wrap _) dX11_counts_33 (fun H locs w_M_2 => ?_)
      rw [← eM_2] at w_M_2
      refine lv_aload_n hx hb dX11_counts_34 rfl (lv_at hl 0 rfl) ?_
      refine g_getr X w_M_2 fg_X11_100 KD_80 FR_80_41 dX11_counts_35 ?_
      refine lv_iload_n hx hb dX11_counts_38 rfl (lv_at hl 1 rfl) ?_
      obtain ⟨hg_4, hf⟩ := gd_some hf
      refine g_iald X w_M_2 KD_108 hv1 hg_4 dX11_counts_39 ?_
      refine lv_aload_n hx hb dX11_counts_40 rfl (lv_at hl 0 rfl) ?_
      refine g_geti X w_M_2 fg_X11_41 KD_80 FR_80_12 dX11_counts_41 ?_
      refine g_icmp_ge (tgt := 49) X (w_M_2.2.2 _ _) (w_M_2.2.2 _ _) dX11_counts_44 (by decide) (fun cd_3 => ?_) (fun cd_3 => ?_)
      · replace hf := ite_t cd_3 hf
        refine lv_aload_n hx hb dX11_counts_49 rfl (lv_at hl 0 rfl) ?_
        refine g_getr X w_M_2 fg_X11_100 KD_80 FR_80_41 dX11_counts_50 ?_
        refine lv_iload_n hx hb dX11_counts_53 rfl (lv_at hl 1 rfl) ?_
        refine g_iconst X dX11_counts_54 ?_
        obtain ⟨hg_5, hf⟩ := gd_some hf
        obtain ⟨M_3, eM_3, hf⟩ := lt_some hf
        refine g_iast X w_M_2 KD_108 hv1 hg_5 (inL rfl) dX11_counts_55 (fun H locs w_M_3 => ?_)
        rw [← eM_3] at w_M_3
        obtain ⟨v1_2, ev1_2, hf⟩ := lt_some hf
        have hv1_2 : inR v1_2 := inR_of ev1_2 (inR_wrap _)
        refine lv_iinc (v := i2 v1_2) (lv' := [(1, .int (i2 v1_2)), (0, .ref (ad 80))]) hx hb dX11_counts_56 hl (k := 1) rfl (by rw [ev1_2]; exact i2_add _ _) (by decide) rfl (fun ls hl => ?_)
        refine lv_goto (tgt := 7) hx hb dX11_counts_59 (by decide) ?_
        exact HC v1_2 M_3 _ _ _ (Option.some.inj hf).symm hv1_2 (lv_sub hl [1, 0] rfl) w_M_3
      · replace hf := ite_f cd_3 hf
        refine g_iconst X dX11_counts_47 ?_
        exact HR 1 M_2 _ _ _ _ (Option.some.inj hf).symm (Or.inr rfl) w_M_2 dX11_counts_48
    · replace hf := ite_t cd_2 hf
      refine lv_goto (tgt := 56) hx hb dX11_counts_21 (by decide) ?_
      obtain ⟨v1_3, ev1_3, hf⟩ := lt_some hf
      have hv1_3 : inR v1_3 := inR_of ev1_3 (inR_wrap _)
      refine lv_iinc (v := i2 v1_3) (lv' := [(1, .int (i2 v1_3)), (0, .ref (ad 80))]) hx hb dX11_counts_56 hl (k := 1) rfl (by rw [ev1_3]; exact i2_add _ _) (by decide) rfl (fun ls hl => ?_)
      refine lv_goto (tgt := 7) hx hb dX11_counts_59 (by decide) ?_
      exact HC v1_3 M _ _ _ (Option.some.inj hf).symm hv1_3 (lv_sub hl [1, 0] rfl) w
set_option maxRecDepth 100000 in
set_option maxHeartbeats 4000000 in
theorem l_X11_counts_7 (X : CX p s m args c cX11_counts 2 RX11 D aC ad sg A H0) {out : (Int × Mem) ⊕ (Int × Mem)} (HE : ∀ (y1 : Int) (M1 : Mem) (H : Heap) (locs : List Loc) (ls : Array Slot), out = .inl (y1, M1) → inR y1 → lv_has ls 2 [(0, .ref (ad 80)), (1, .int (i2 y1))] → WS D aC ad A H0 M1 H locs → W p l e rm_X11_counts s m args below meth c H locs 0 0 Q (F0 m 62 ls [])) (HR : ∀ (r : Int) (M1 : Mem) (H : Heap) (locs : List Loc) (pc : Nat) (ls : Array Slot), out = .inr (r, M1) → isZ r → WS D aC ad A H0 M1 H locs → decode cX11_counts pc = .ok (.ireturn, 1) → W p l e rm_X11_counts s m args below meth c H locs 0 0 Q (F0 m pc ls [.int (i2 r)])) : ∀ (n : Nat) (v1 : Int) (M : Mem), whl (fun s => f_X11_counts_s7 s.1 s.2) n (v1, M) = some out → inR v1 → ∀ {H : Heap} {locs : List Loc} {ls : Array Slot}, lv_has ls 2 [(0, .ref (ad 80)), (1, .int (i2 v1))] → WS D aC ad A H0 M H locs → W p l e rm_X11_counts s m args below meth c H locs 0 0 Q (F0 m 7 ls []) := by
  intro n
  induction n with
  | zero => intro v1 M hf; exact (whl_zero hf).elim
  | succ n ih =>
    intro v1 M hf hv1 H locs ls hl w
    obtain ⟨o, hf, hk1, hk2⟩ := whl_step hf
    exact b_X11_counts_s7 X  (fun y1 M1 H locs ls eo hy1 hl w => ih y1 M1 (hk1 _ eo) hy1 hl w) (fun y1 M1 H locs ls eo hy1 hl w => HE y1 M1 H locs ls (hk2 _ eo).symm hy1 hl w) (fun r M1 H locs pc ls eo hP w dg => HR r M1 H locs pc ls (hk2 _ eo).symm hP w dg) v1 hv1 M hf hl w
set_option maxRecDepth 100000 in
set_option maxHeartbeats 4000000 in
theorem b_X11_counts_j62 (X : CX p s m args c cX11_counts 2 RX11 D aC ad sg A H0) {o : Int × Mem} (HR : ∀ (r : Int) (M1 : Mem) (H : Heap) (locs : List Loc) (pc : Nat) (ls : Array Slot), o = (r, M1) → isZ r → WS D aC ad A H0 M1 H locs → decode cX11_counts pc = .ok (.ireturn, 1) → W p l e rm_X11_counts s m args below meth c H locs 0 0 Q (F0 m pc ls [.int (i2 r)])) (M : Mem) (hf : f_X11_counts_j62 M = some o) {H : Heap} {locs : List Loc} {ls : Array Slot} (hl : lv_has ls 2 []) (w : WS D aC ad A H0 M H locs) : W p l e rm_X11_counts s m args below meth c H locs 0 0 Q (F0 m 62 ls []) := by
  have hx := X.1.1
  have hb := X.1.2.1
  unfold f_X11_counts_j62 at hf
  refine g_iconst X dX11_counts_62 ?_
  exact HR 0 M _ _ _ _ (Option.some.inj hf).symm (Or.inl rfl) w dX11_counts_63
set_option maxRecDepth 100000 in
set_option maxHeartbeats 4000000 in
theorem b_X11_counts_0 (X : CX p s m args c cX11_counts 2 RX11 D aC ad sg A H0) {o : Int × Mem} (HR : ∀ (r : Int) (M1 : Mem) (H : Heap) (locs : List Loc) (pc : Nat) (ls : Array Slot), o = (r, M1) → isZ r → WS D aC ad A H0 M1 H locs → decode cX11_counts pc = .ok (.ireturn, 1) → W p l e rm_X11_counts s m args below meth c H locs 0 0 Q (F0 m pc ls [.int (i2 r)])) (M : Mem) (hf : f_X11_counts M = some o) {H : Heap} {locs : List Loc} {ls : Array Slot} (hl : lv_has ls 2 [(0, .ref (ad 80))]) (w : WS D aC ad A H0 M H locs) : W p l e rm_X11_counts s m args below meth c H locs 0 0 Q (F0 m 0 ls []) := by
  have hx := X.1.1
  have hb := X.1.2.1
  unfold f_X11_counts at hf
  refine lv_aload_n hx hb dX11_counts_0 rfl (lv_at hl 0 rfl) ?_
  refine g_geti X w fg_X11_142 KD_80 FR_80_1 dX11_counts_1 ?_
  refine g_iconst X dX11_counts_4 ?_
  refine g_isub X dX11_counts_5 ?_
  obtain ⟨v1, ev1, hf⟩ := lt_some hf
  have hv1 : inR v1 := inR_of ev1 (inR_wrap _)
  refine g_istn (v := v1) (lv' := [(1, .int (i2 v1)), (0, .ref (ad 80))]) X ev1 dX11_counts_6 rfl hl (by decide) rfl (fun ls hl => ?_)
  obtain ⟨q, hq, h1, h2⟩ := lpr_some hf
  exact l_X11_counts_7 X  (out := q) (fun y1 M1 H locs ls eq hy1 hl w => b_X11_counts_j62 X  HR M1 (h1 _ eq) (lv_sub hl [] rfl) w) (fun r M1 H locs pc ls eq hP w dg => HR r M1 H locs pc ls (Option.some.inj (h2 _ eq)).symm hP w dg) FU v1 M hq hv1 (lv_sub hl [1, 0] rfl) w
set_option maxRecDepth 100000 in
set_option maxHeartbeats 4000000 in
theorem k_X11_counts {l : Launch} {D : va_G} {aC : Nat → ClassId} {ad : Nat → Nat} {sg : SG} (hi : Inj ad)  {M : Mem} (hM : inM M) {r : Int} {M' : Mem} (hf : f_X11_counts M = some (r, M')) : MetI l D aC ad sg yX11_counts cX11_counts 2 (some .boolean) rm_X11_counts 0 0 [.ref (ad 80)] M r M' := by
  refine MetI.ofZ (by decide +kernel) (nle rfl) hi hM (fun p e s m args below meth c Q H0 ls X hl w hret => ?_)
  exact b_X11_counts_0 X  (fun r1 M1 H locs pc ls eo hP w dg => by cases eo; exact hret H locs pc ls hP w dg) M hf hl w
set_option maxRecDepth 100000 in
set_option maxHeartbeats 4000000 in
theorem b_X11_bests_s77 (X : CX p s m args c cX11_bests 4 RX11 D aC ad sg A H0) (v1 : Int) (hv1 : inR v1) {o : (Int × Mem) ⊕ (Int × Mem)} (HC : ∀ (y2 : Int) (M1 : Mem) (H : Heap) (locs : List Loc) (ls : Array Slot), o = .inl (y2, M1) → inR y2 → lv_has ls 4 [(0, .ref (ad 80)), (1, .int (i2 v1)), (2, .int (i2 y2))] → WS D aC ad A H0 M1 H locs → W p l e rm_X11_bests s m args below meth c H locs 0 0 Q (F0 m 77 ls [])) (HE : ∀ (y2 : Int) (M1 : Mem) (H : Heap) (locs : List Loc) (ls : Array Slot), o = .inr (y2, M1) → inR y2 → lv_has ls 4 [(0, .ref (ad 80)), (1, .int (i2 v1)), (2, .int (i2 y2))] → WS D aC ad A H0 M1 H locs → W p l e rm_X11_bests s m args below meth c H locs 0 0 Q (F0 m 112 ls [])) (v2 : Int) (hv2 : inR v2) (M : Mem) (hf : f_X11_bests_s77 v1 v2 M = some o) {H : Heap} {locs : List Loc} {ls : Array Slot} (hl : lv_has ls 4 [(0, .ref (ad 80)), (1, .int (i2 v1)), (2, .int (i2 v2))]) (w : WS D aC ad A H0 M H locs) : W p l e rm_X11_bests s m args below meth c H locs 0 0 Q (F0 m 77 ls []) := by
  have hx := X.1.1
  have hb := X.1.2.1
  unfold f_X11_bests_s77 at hf
  refine lv_iload_n hx hb dX11_bests_77 rfl (lv_at hl 2 rfl) ?_
  refine lv_aload_n hx hb dX11_bests_78 rfl (lv_at hl 0 rfl) ?_
  refine g_geti X w fg_X11_142 KD_80 FR_80_1 dX11_bests_79 ?_
  refine g_icmp_ge (tgt := 112) X hv2 (w.2.2 _ _) dX11_bests_82 (by decide) (fun cd => ?_) (fun cd => ?_)
  · replace hf := ite_t cd hf
    exact HE v2 M _ _ _ (Option.some.inj hf).symm hv2 hl w
  · replace hf := ite_f cd hf
    refine lv_aload_n hx hb dX11_bests_85 rfl (lv_at hl 0 rfl) ?_
    refine g_getr X w fg_X11_100 KD_80 FR_80_41 dX11_bests_86 ?_
    refine lv_iload_n hx hb dX11_bests_89 rfl (lv_at hl 2 rfl) ?_
    refine lv_aload_n hx hb dX11_bests_90 rfl (lv_at hl 0 rfl) ?_
    refine g_getr X w fg_X11_19 KD_80 FR_80_5 dX11_bests_91 ?_
    refine lv_iload_n hx hb dX11_bests_94 rfl (lv_at hl 2 rfl) ?_
    obtain ⟨hg, hf⟩ := gd_some hf
    refine g_iald X w KD_84 hv2 hg dX11_bests_95 ?_
    refine lv_iload_n hx hb dX11_bests_96 rfl (lv_at hl 1 rfl) ?_
    refine g_icmp_gt (tgt := 104) X (w.2.2 _ _) hv1 dX11_bests_97 (by decide) (fun cd_2 => ?_) (fun cd_2 => ?_)
    · replace hf := ite_t cd_2 hf
      refine g_iconst X dX11_bests_104 ?_
      obtain ⟨hg_2, hf⟩ := gd_some hf
      obtain ⟨M_2, eM_2, hf⟩ := lt_some hf
      refine g_iast X w KD_108 hv2 hg_2 (inL rfl) dX11_bests_105 (fun H locs w_M_2 => ?_)
      rw [← eM_2] at w_M_2
      obtain ⟨v2_2, ev2_2, hf⟩ := lt_some hf
      have hv2_2 : inR v2_2 := inR_of ev2_2 (inR_wrap _)
      refine lv_iinc (v := i2 v2_2) (lv' := [(2, .int (i2 v2_2)), (0, .ref (ad 80)), (1, .int (i2 v1))]) hx hb dX11_bests_106 hl (k := 2) rfl (by rw [ev2_2]; exact i2_add _ _) (by decide) rfl (fun ls hl => ?_)
      refine lv_goto (tgt := 77) hx hb dX11_bests_109 (by decide) ?_
      exact HC v2_2 M_2 _ _ _ (Option.some.inj hf).symm hv2_2 (lv_sub hl [1, 2, 0] rfl) w_M_2
    · replace hf := ite_f cd_2 hf
      refine g_iconst X dX11_bests_100 ?_
      refine lv_goto (tgt := 105) hx hb dX11_bests_101 (by decide) ?_
      obtain ⟨hg_3, hf⟩ := gd_some hf
      obtain ⟨M_3, eM_3, hf⟩ := lt_some hf
      refine g_iast X w KD_108 hv2 hg_3 (inL rfl) dX11_bests_105 (fun H locs w_M_3 => ?_)
      rw [← eM_3] at w_M_3
      obtain ⟨v2_3, ev2_3, hf⟩ := lt_some hf
      have hv2_3 : inR v2_3 := inR_of ev2_3 (inR_wrap _)
      refine lv_iinc (v := i2 v2_3) (lv' := [(2, .int (i2 v2_3)), (0, .ref (ad 80)), (1, .int (i2 v1))]) hx hb dX11_bests_106 hl (k := 2) rfl (by rw [ev2_3]; exact i2_add _ _) (by decide) rfl (fun ls hl => ?_)
      refine lv_goto (tgt := 77) hx hb dX11_bests_109 (by decide) ?_
      exact HC v2_3 M_3 _ _ _ (Option.some.inj hf).symm hv2_3 (lv_sub hl [1, 2, 0] rfl) w_M_3
set_option maxRecDepth 100000 in
set_option maxHeartbeats 4000000 in
theorem l_X11_bests_77 (X : CX p s m args c cX11_bests 4 RX11 D aC ad sg A H0) (v1 : Int) (hv1 : inR v1) {out : Int × Mem} (HE : ∀ (y2 : Int) (M1 : Mem) (H : Heap) (locs : List Loc) (ls : Array Slot), out = (y2, M1) → inR y2 → lv_has ls 4 [(0, .ref (ad 80)), (1, .int (i2 v1)), (2, .int (i2 y2))] → WS D aC ad A H0 M1 H locs → W p l e rm_X11_bests s m args below meth c H locs 0 0 Q (F0 m 112 ls [])) : ∀ (n : Nat) (v2 : Int) (M : Mem), whl (fun s => f_X11_bests_s77 v1 s.1 s.2) n (v2, M) = some out → inR v2 → ∀ {H : Heap} {locs : List Loc} {ls : Array Slot}, lv_has ls 4 [(0, .ref (ad 80)), (1, .int (i2 v1)), (2, .int (i2 v2))] → WS D aC ad A H0 M H locs → W p l e rm_X11_bests s m args below meth c H locs 0 0 Q (F0 m 77 ls []) := by
  intro n
  induction n with
  | zero => intro v2 M hf; exact (whl_zero hf).elim
  | succ n ih =>
    intro v2 M hf hv2 H locs ls hl w
    obtain ⟨o, hf, hk1, hk2⟩ := whl_step hf
    exact b_X11_bests_s77 X v1 hv1 (fun y2 M1 H locs ls eo hy2 hl w => ih y2 M1 (hk1 _ eo) hy2 hl w) (fun y2 M1 H locs ls eo hy2 hl w => HE y2 M1 H locs ls (hk2 _ eo).symm hy2 hl w) v2 hv2 M hf hl w
set_option maxRecDepth 100000 in
set_option maxHeartbeats 4000000 in
theorem b_X11_bests_s159 (X : CX p s m args c cX11_bests 4 RX11 D aC ad sg A H0) (v1 : Int) (hv1 : inR v1) {o : (Int × Mem) ⊕ (Int × Mem)} (HC : ∀ (y3 : Int) (M1 : Mem) (H : Heap) (locs : List Loc) (ls : Array Slot), o = .inl (y3, M1) → inR y3 → lv_has ls 4 [(0, .ref (ad 80)), (1, .int (i2 v1)), (3, .int (i2 y3))] → WS D aC ad A H0 M1 H locs → W p l e rm_X11_bests s m args below meth c H locs 0 0 Q (F0 m 159 ls [])) (HE : ∀ (y3 : Int) (M1 : Mem) (H : Heap) (locs : List Loc) (ls : Array Slot), o = .inr (y3, M1) → inR y3 → lv_has ls 4 [(0, .ref (ad 80)), (1, .int (i2 v1)), (3, .int (i2 y3))] → WS D aC ad A H0 M1 H locs → W p l e rm_X11_bests s m args below meth c H locs 0 0 Q (F0 m 185 ls [])) (v3 : Int) (hv3 : inR v3) (M : Mem) (hf : f_X11_bests_s159 v1 v3 M = some o) {H : Heap} {locs : List Loc} {ls : Array Slot} (hl : lv_has ls 4 [(0, .ref (ad 80)), (1, .int (i2 v1)), (3, .int (i2 v3))]) (w : WS D aC ad A H0 M H locs) : W p l e rm_X11_bests s m args below meth c H locs 0 0 Q (F0 m 159 ls []) := by
  have hx := X.1.1
  have hb := X.1.2.1
  unfold f_X11_bests_s159 at hf
  refine lv_iload_n hx hb dX11_bests_159 rfl (lv_at hl 2 rfl) ?_
  refine lv_aload_n hx hb dX11_bests_160 rfl (lv_at hl 0 rfl) ?_
  refine g_geti X w fg_X11_142 KD_80 FR_80_1 dX11_bests_161 ?_
  refine g_icmp_ge (tgt := 185) X hv3 (w.2.2 _ _) dX11_bests_164 (by decide) (fun cd => ?_) (fun cd => ?_)
  · replace hf := ite_t cd hf
    exact HE v3 M _ _ _ (Option.some.inj hf).symm hv3 hl w
  · replace hf := ite_f cd hf
    refine lv_aload_n hx hb dX11_bests_167 rfl (lv_at hl 0 rfl) ?_
    refine g_getr X w fg_X11_103 KD_80 FR_80_42 dX11_bests_168 ?_
    refine lv_iload_n hx hb dX11_bests_171 rfl (lv_at hl 2 rfl) ?_
    refine lv_aload_n hx hb dX11_bests_172 rfl (lv_at hl 0 rfl) ?_
    refine g_getr X w fg_X11_100 KD_80 FR_80_41 dX11_bests_173 ?_
    refine lv_iload_n hx hb dX11_bests_176 rfl (lv_at hl 2 rfl) ?_
    obtain ⟨hg, hf⟩ := gd_some hf
    refine g_iald X w KD_108 hv3 hg dX11_bests_177 ?_
    obtain ⟨hg_2, hf⟩ := gd_some hf
    obtain ⟨M_2, eM_2, hf⟩ := lt_some hf
    refine g_iast X w KD_109 hv3 hg_2 (w.2.2 _ _) dX11_bests_178 (fun H locs w_M_2 => ?_)
    rw [← eM_2] at w_M_2
    obtain ⟨v3_2, ev3_2, hf⟩ := lt_some hf
    have hv3_2 : inR v3_2 := inR_of ev3_2 (inR_wrap _)
    refine lv_iinc (v := i2 v3_2) (lv' := [(3, .int (i2 v3_2)), (0, .ref (ad 80)), (1, .int (i2 v1))]) hx hb dX11_bests_179 hl (k := 2) rfl (by rw [ev3_2]; exact i2_add _ _) (by decide) rfl (fun ls hl => ?_)
    refine lv_goto (tgt := 159) hx hb dX11_bests_182 (by decide) ?_
    exact HC v3_2 M_2 _ _ _ (Option.some.inj hf).symm hv3_2 (lv_sub hl [1, 2, 0] rfl) w_M_2
set_option maxRecDepth 100000 in
set_option maxHeartbeats 4000000 in
theorem l_X11_bests_159 (X : CX p s m args c cX11_bests 4 RX11 D aC ad sg A H0) (v1 : Int) (hv1 : inR v1) {out : Int × Mem} (HE : ∀ (y3 : Int) (M1 : Mem) (H : Heap) (locs : List Loc) (ls : Array Slot), out = (y3, M1) → inR y3 → lv_has ls 4 [(0, .ref (ad 80)), (1, .int (i2 v1)), (3, .int (i2 y3))] → WS D aC ad A H0 M1 H locs → W p l e rm_X11_bests s m args below meth c H locs 0 0 Q (F0 m 185 ls [])) : ∀ (n : Nat) (v3 : Int) (M : Mem), whl (fun s => f_X11_bests_s159 v1 s.1 s.2) n (v3, M) = some out → inR v3 → ∀ {H : Heap} {locs : List Loc} {ls : Array Slot}, lv_has ls 4 [(0, .ref (ad 80)), (1, .int (i2 v1)), (3, .int (i2 v3))] → WS D aC ad A H0 M H locs → W p l e rm_X11_bests s m args below meth c H locs 0 0 Q (F0 m 159 ls []) := by
  intro n
  induction n with
  | zero => intro v3 M hf; exact (whl_zero hf).elim
  | succ n ih =>
    intro v3 M hf hv3 H locs ls hl w
    obtain ⟨o, hf, hk1, hk2⟩ := whl_step hf
    exact b_X11_bests_s159 X v1 hv1 (fun y3 M1 H locs ls eo hy3 hl w => ih y3 M1 (hk1 _ eo) hy3 hl w) (fun y3 M1 H locs ls eo hy3 hl w => HE y3 M1 H locs ls (hk2 _ eo).symm hy3 hl w) v3 hv3 M hf hl w
set_option maxRecDepth 100000 in
set_option maxHeartbeats 4000000 in
theorem b_X11_bests_j185k119 (X : CX p s m args c cX11_bests 4 RX11 D aC ad sg A H0) (v1 : Int) (hv1 : inR v1) {o : (Mem) ⊕ (Mem)} (HC : ∀  (M1 : Mem) (H : Heap) (locs : List Loc) (ls : Array Slot), o = .inl M1 → lv_has ls 4 [(0, .ref (ad 80)), (1, .int (i2 v1))] → WS D aC ad A H0 M1 H locs → W p l e rm_X11_bests s m args below meth c H locs 0 0 Q (F0 m 119 ls [])) (HE : ∀  (M1 : Mem) (H : Heap) (locs : List Loc) (ls : Array Slot), o = .inr M1 → lv_has ls 4 [(0, .ref (ad 80)), (1, .int (i2 v1))] → WS D aC ad A H0 M1 H locs → W p l e rm_X11_bests s m args below meth c H locs 0 0 Q (F0 m 192 ls [])) (M : Mem) (hf : f_X11_bests_j185k119 v1 M = some o) {H : Heap} {locs : List Loc} {ls : Array Slot} (hl : lv_has ls 4 [(0, .ref (ad 80)), (1, .int (i2 v1))]) (w : WS D aC ad A H0 M H locs) : W p l e rm_X11_bests s m args below meth c H locs 0 0 Q (F0 m 185 ls []) := by
  have hx := X.1.1
  have hb := X.1.2.1
  unfold f_X11_bests_j185k119 at hf
  refine lv_aload_n hx hb dX11_bests_185 rfl (lv_at hl 0 rfl) ?_
  obtain ⟨r, M_2, hc, hf⟩ := bnd_some hf
  refine g_cvi (As := []) (rest := []) X w (k_X11_counts X.2.2.1  w.2.2 hc) lk_X11_361 cl_11 KD_80 ⟨rfl, rfl⟩ ⟨nle rfl, nle rfl⟩ ⟨nle rfl, nle rfl⟩ hl.1 rfl (nle rfl) dX11_bests_186 (fun hr H locs w_M_2 => ?_)
  refine g_if_ne (tgt := 119) X hr dX11_bests_189 (by decide) (fun cd => ?_) (fun cd => ?_)
  · replace hf := ite_f cd hf
    exact HC  M_2 _ _ _ (Option.some.inj hf).symm  hl w_M_2
  · replace hf := ite_t cd hf
    exact HE  M_2 _ _ _ (Option.some.inj hf).symm  hl w_M_2
set_option maxRecDepth 100000 in
set_option maxHeartbeats 4000000 in
theorem b_X11_bests_s119 (X : CX p s m args c cX11_bests 4 RX11 D aC ad sg A H0) (v1 : Int) (hv1 : inR v1) {o : (Mem) ⊕ (Mem)} (HC : ∀  (M1 : Mem) (H : Heap) (locs : List Loc) (ls : Array Slot), o = .inl M1 → lv_has ls 4 [(0, .ref (ad 80)), (1, .int (i2 v1))] → WS D aC ad A H0 M1 H locs → W p l e rm_X11_bests s m args below meth c H locs 0 0 Q (F0 m 119 ls [])) (HE : ∀  (M1 : Mem) (H : Heap) (locs : List Loc) (ls : Array Slot), o = .inr M1 → lv_has ls 4 [(0, .ref (ad 80)), (1, .int (i2 v1))] → WS D aC ad A H0 M1 H locs → W p l e rm_X11_bests s m args below meth c H locs 0 0 Q (F0 m 192 ls [])) (M : Mem) (hf : f_X11_bests_s119 v1 M = some o) {H : Heap} {locs : List Loc} {ls : Array Slot} (hl : lv_has ls 4 [(0, .ref (ad 80)), (1, .int (i2 v1))]) (w : WS D aC ad A H0 M H locs) : W p l e rm_X11_bests s m args below meth c H locs 0 0 Q (F0 m 119 ls []) := by
  have hx := X.1.1
  have hb := X.1.2.1
  unfold f_X11_bests_s119 at hf
  refine lv_aload_n hx hb dX11_bests_119 rfl (lv_at hl 0 rfl) ?_
  obtain ⟨r, hc, hf⟩ := obn_some hf
  refine g_cvi (As := []) (rest := []) X w (k_X11_isSound X.2.2.1  w.2.2 hc) lk_X11_352 cl_11 KD_80 ⟨rfl, rfl⟩ ⟨nle rfl, nle rfl⟩ ⟨nle rfl, nle rfl⟩ hl.1 rfl (nle rfl) dX11_bests_120 (fun hr H locs w => ?_)
  refine g_if_eq (tgt := 185) X hr dX11_bests_123 (by decide) (fun cd => ?_) (fun cd => ?_)
  · replace hf := ite_t cd hf
    refine lv_aload_n hx hb dX11_bests_185 rfl (lv_at hl 0 rfl) ?_
    obtain ⟨r_2, M_2, hc, hf⟩ := bnd_some hf
    refine g_cvi (As := []) (rest := []) X w (k_X11_counts X.2.2.1  w.2.2 hc) lk_X11_361 cl_11 KD_80 ⟨rfl, rfl⟩ ⟨nle rfl, nle rfl⟩ ⟨nle rfl, nle rfl⟩ hl.1 rfl (nle rfl) dX11_bests_186 (fun hr_2 H locs w_M_2 => ?_)
    refine g_if_ne (tgt := 119) X hr_2 dX11_bests_189 (by decide) (fun cd_2 => ?_) (fun cd_2 => ?_)
    · replace hf := ite_f cd_2 hf
      exact HC  M_2 _ _ _ (Option.some.inj hf).symm  hl w_M_2
    · replace hf := ite_t cd_2 hf
      exact HE  M_2 _ _ _ (Option.some.inj hf).symm  hl w_M_2
  · replace hf := ite_f cd hf
    refine lv_aload_n hx hb dX11_bests_126 rfl (lv_at hl 0 rfl) ?_
    obtain ⟨r_3, hc, hf⟩ := obn_some hf
    refine g_cvi (As := []) (rest := []) X w (k_X11_lack X.2.2.1  w.2.2 hc) lk_X11_355 cl_11 KD_80 ⟨rfl, rfl⟩ ⟨nle rfl, nle rfl⟩ ⟨nle rfl, nle rfl⟩ hl.1 rfl (nle rfl) dX11_bests_127 (fun hr_3 H locs w => ?_)
    refine g_if_le (tgt := 136) X hr_3 dX11_bests_130 (by decide) (fun cd_3 => ?_) (fun cd_3 => ?_)
    · replace hf := ite_t cd_3 hf
      refine lv_aload_n hx hb dX11_bests_136 rfl (lv_at hl 0 rfl) ?_
      obtain ⟨r_4, hc, hf⟩ := obn_some hf
      refine g_cvi (As := []) (rest := []) X w (k_X11_allHarm X.2.2.1  w.2.2 hc) lk_X11_358 cl_11 KD_80 ⟨rfl, rfl⟩ ⟨nle rfl, nle rfl⟩ ⟨nle rfl, nle rfl⟩ hl.1 rfl (nle rfl) dX11_bests_137 (fun hr_4 H locs w => ?_)
      refine g_istn (v := r_4) (lv' := [(2, .int (i2 r_4)), (0, .ref (ad 80)), (1, .int (i2 v1))]) X rfl dX11_bests_140 rfl hl (by decide) rfl (fun ls hl => ?_)
      refine lv_iload_n hx hb dX11_bests_141 rfl (lv_at hl 0 rfl) ?_
      refine lv_aload_n hx hb dX11_bests_142 rfl (lv_at hl 1 rfl) ?_
      refine g_geti X w fg_X11_349 KD_80 FR_80_45 dX11_bests_143 ?_
      refine g_icmp_lt (tgt := 152) X hr_4 (w.2.2 _ _) dX11_bests_146 (by decide) (fun cd_4 => ?_) (fun cd_4 => ?_)
      · replace hf := ite_t cd_4 hf
        refine lv_aload_n hx hb dX11_bests_152 rfl (lv_at hl 1 rfl) ?_
        refine lv_iload_n hx hb dX11_bests_153 rfl (lv_at hl 0 rfl) ?_
        obtain ⟨M_3, eM_3, hf⟩ := lt_some hf
        refine g_puti X w fp_X11_349 KD_80 FR_80_45 hr_4 dX11_bests_154 (fun H locs w_M_3 => ?_)
        rw [← eM_3] at w_M_3
        refine g_iconst X dX11_bests_157 ?_
        refine g_istn (v := 0) (lv' := [(3, .int (i2 0)), (2, .int (i2 r_4)), (0, .ref (ad 80)), (1, .int (i2 v1))]) X rfl dX11_bests_158 rfl hl (by decide) rfl (fun ls hl => ?_)
        obtain ⟨q, hq, h1⟩ := obn_some hf
        exact l_X11_bests_159 X v1 hv1 (out := q) (fun y3 M1 H locs ls eq hy3 hl w => b_X11_bests_j185k119 X v1 hv1 HC HE M1 (by subst eq; exact h1) (lv_sub hl [0, 1] rfl) w)  FU 0 M_3 hq (inL rfl) (lv_sub hl [2, 3, 0] rfl) w_M_3
      · replace hf := ite_f cd_4 hf
        refine lv_goto (tgt := 185) hx hb dX11_bests_149 (by decide) ?_
        refine lv_aload_n hx hb dX11_bests_185 rfl (lv_at hl 1 rfl) ?_
        obtain ⟨r_5, M_4, hc, hf⟩ := bnd_some hf
        refine g_cvi (As := []) (rest := []) X w (k_X11_counts X.2.2.1  w.2.2 hc) lk_X11_361 cl_11 KD_80 ⟨rfl, rfl⟩ ⟨nle rfl, nle rfl⟩ ⟨nle rfl, nle rfl⟩ hl.1 rfl (nle rfl) dX11_bests_186 (fun hr_5 H locs w_M_4 => ?_)
        refine g_if_ne (tgt := 119) X hr_5 dX11_bests_189 (by decide) (fun cd_5 => ?_) (fun cd_5 => ?_)
        · replace hf := ite_f cd_5 hf
          exact HC  M_4 _ _ _ (Option.some.inj hf).symm  (lv_sub hl [1, 2] rfl) w_M_4
        · replace hf := ite_t cd_5 hf
          exact HE  M_4 _ _ _ (Option.some.inj hf).symm  (lv_sub hl [1, 2] rfl) w_M_4
    · replace hf := ite_f cd_3 hf
      refine lv_goto (tgt := 185) hx hb dX11_bests_133 (by decide) ?_
      refine lv_aload_n hx hb dX11_bests_185 rfl (lv_at hl 0 rfl) ?_
      obtain ⟨r_6, M_5, hc, hf⟩ := bnd_some hf
      refine g_cvi (As := []) (rest := []) X w (k_X11_counts X.2.2.1  w.2.2 hc) lk_X11_361 cl_11 KD_80 ⟨rfl, rfl⟩ ⟨nle rfl, nle rfl⟩ ⟨nle rfl, nle rfl⟩ hl.1 rfl (nle rfl) dX11_bests_186 (fun hr_6 H locs w_M_5 => ?_)
      refine g_if_ne (tgt := 119) X hr_6 dX11_bests_189 (by decide) (fun cd_6 => ?_) (fun cd_6 => ?_)
      · replace hf := ite_f cd_6 hf
        exact HC  M_5 _ _ _ (Option.some.inj hf).symm  hl w_M_5
      · replace hf := ite_t cd_6 hf
        exact HE  M_5 _ _ _ (Option.some.inj hf).symm  hl w_M_5
set_option maxRecDepth 100000 in
set_option maxHeartbeats 4000000 in
theorem l_X11_bests_119 (X : CX p s m args c cX11_bests 4 RX11 D aC ad sg A H0) (v1 : Int) (hv1 : inR v1) {out : Mem} (HE : ∀  (M1 : Mem) (H : Heap) (locs : List Loc) (ls : Array Slot), out = M1 → lv_has ls 4 [(0, .ref (ad 80)), (1, .int (i2 v1))] → WS D aC ad A H0 M1 H locs → W p l e rm_X11_bests s m args below meth c H locs 0 0 Q (F0 m 192 ls [])) : ∀ (n : Nat)  (M : Mem), whl (fun s => f_X11_bests_s119 v1 s) n M = some out → ∀ {H : Heap} {locs : List Loc} {ls : Array Slot}, lv_has ls 4 [(0, .ref (ad 80)), (1, .int (i2 v1))] → WS D aC ad A H0 M H locs → W p l e rm_X11_bests s m args below meth c H locs 0 0 Q (F0 m 119 ls []) := by
  intro n
  induction n with
  | zero => intro M hf; exact (whl_zero hf).elim
  | succ n ih =>
    intro M hf  H locs ls hl w
    obtain ⟨o, hf, hk1, hk2⟩ := whl_step hf
    exact b_X11_bests_s119 X v1 hv1 (fun  M1 H locs ls eo  hl w => ih  M1 (hk1 _ eo)  hl w) (fun  M1 H locs ls eo  hl w => HE  M1 H locs ls (hk2 _ eo).symm  hl w)  M hf hl w
set_option maxRecDepth 100000 in
set_option maxHeartbeats 4000000 in
theorem b_X11_bests_j192 (X : CX p s m args c cX11_bests 4 RX11 D aC ad sg A H0) {o : Int × Mem} (HR : ∀ (r : Int) (M1 : Mem) (H : Heap) (locs : List Loc) (pc : Nat) (ls : Array Slot), o = (r, M1) → inR r → WS D aC ad A H0 M1 H locs → decode cX11_bests pc = .ok (.ireturn, 1) → W p l e rm_X11_bests s m args below meth c H locs 0 0 Q (F0 m pc ls [.int (i2 r)])) (v1 : Int) (hv1 : inR v1) (M : Mem) (hf : f_X11_bests_j192 v1 M = some o) {H : Heap} {locs : List Loc} {ls : Array Slot} (hl : lv_has ls 4 [(0, .ref (ad 80)), (1, .int (i2 v1))]) (w : WS D aC ad A H0 M H locs) : W p l e rm_X11_bests s m args below meth c H locs 0 0 Q (F0 m 192 ls []) := by
  have hx := X.1.1
  have hb := X.1.2.1
  unfold f_X11_bests_j192 at hf
  refine lv_aload_n hx hb dX11_bests_192 rfl (lv_at hl 0 rfl) ?_
  refine g_iconst X dX11_bests_193 ?_
  obtain ⟨M_2, eM_2, hf⟩ := lt_some hf
  refine g_putz X w fp_X11_156 KD_80 FR_80_43 (Or.inr rfl) dX11_bests_194 (fun H locs w_M_2 => ?_)
  rw [← eM_2] at w_M_2
  refine lv_aload_n hx hb dX11_bests_197 rfl (lv_at hl 0 rfl) ?_
  refine lv_iload_n hx hb dX11_bests_198 rfl (lv_at hl 1 rfl) ?_
  obtain ⟨M_3, eM_3, hf⟩ := lt_some hf
  refine g_puti X w_M_2 fp_X11_346 KD_80 FR_80_44 hv1 dX11_bests_199 (fun H locs w_M_3 => ?_)
  rw [← eM_3] at w_M_3
  refine lv_aload_n hx hb dX11_bests_202 rfl (lv_at hl 0 rfl) ?_
  refine g_geti X w_M_3 fg_X11_349 KD_80 FR_80_45 dX11_bests_203 ?_
  refine g_ldcw X kc_X11_336 dX11_bests_206 ?_
  refine g_icmp_ne (tgt := 217) X (w_M_3.2.2 _ _) (inL rfl) dX11_bests_209 (by decide) (fun cd => ?_) (fun cd => ?_)
  · replace hf := ite_f cd hf
    refine lv_aload_n hx hb dX11_bests_217 rfl (lv_at hl 0 rfl) ?_
    refine g_geti X w_M_3 fg_X11_349 KD_80 FR_80_45 dX11_bests_218 ?_
    exact HR (M_3 80 45) M_3 _ _ _ _ (Option.some.inj hf).symm (w_M_3.2.2 _ _) w_M_3 dX11_bests_221
  · replace hf := ite_t cd hf
    refine g_bipush X dX11_bests_212 (by decide) ?_
    refine lv_goto (tgt := 221) hx hb dX11_bests_214 (by decide) ?_
    exact HR (-2) M_3 _ _ _ _ (Option.some.inj hf).symm (inL rfl) w_M_3 dX11_bests_221
set_option maxRecDepth 100000 in
set_option maxHeartbeats 4000000 in
theorem b_X11_bests_j112 (X : CX p s m args c cX11_bests 4 RX11 D aC ad sg A H0) {o : Int × Mem} (HR : ∀ (r : Int) (M1 : Mem) (H : Heap) (locs : List Loc) (pc : Nat) (ls : Array Slot), o = (r, M1) → inR r → WS D aC ad A H0 M1 H locs → decode cX11_bests pc = .ok (.ireturn, 1) → W p l e rm_X11_bests s m args below meth c H locs 0 0 Q (F0 m pc ls [.int (i2 r)])) (v1 : Int) (hv1 : inR v1) (M : Mem) (hf : f_X11_bests_j112 v1 M = some o) {H : Heap} {locs : List Loc} {ls : Array Slot} (hl : lv_has ls 4 [(0, .ref (ad 80)), (1, .int (i2 v1))]) (w : WS D aC ad A H0 M H locs) : W p l e rm_X11_bests s m args below meth c H locs 0 0 Q (F0 m 112 ls []) := by
  have hx := X.1.1
  have hb := X.1.2.1
  unfold f_X11_bests_j112 at hf
  refine lv_aload_n hx hb dX11_bests_112 rfl (lv_at hl 0 rfl) ?_
  refine g_ldcw X kc_X11_336 dX11_bests_113 ?_
  obtain ⟨M_2, eM_2, hf⟩ := lt_some hf
  refine g_puti X w fp_X11_349 KD_80 FR_80_45 (inL rfl) dX11_bests_116 (fun H locs w_M_2 => ?_)
  rw [← eM_2] at w_M_2
  obtain ⟨q, hq, h1⟩ := obn_some hf
  exact l_X11_bests_119 X v1 hv1 (out := q) (fun  M1 H locs ls eq  hl w => b_X11_bests_j192 X  HR v1 hv1 M1 (by subst eq; exact h1) hl w)  FU M_2 hq  hl w_M_2
set_option maxRecDepth 100000 in
set_option maxHeartbeats 4000000 in
theorem b_X11_bests_0 (X : CX p s m args c cX11_bests 4 RX11 D aC ad sg A H0) {o : Int × Mem} (HR : ∀ (r : Int) (M1 : Mem) (H : Heap) (locs : List Loc) (pc : Nat) (ls : Array Slot), o = (r, M1) → inR r → WS D aC ad A H0 M1 H locs → decode cX11_bests pc = .ok (.ireturn, 1) → W p l e rm_X11_bests s m args below meth c H locs 0 0 Q (F0 m pc ls [.int (i2 r)])) (p1 : Int) (hp1 : inR p1) (M : Mem) (hf : f_X11_bests p1 M = some o) {H : Heap} {locs : List Loc} {ls : Array Slot} (hl : lv_has ls 4 [(0, .ref (ad 80)), (1, .int (i2 p1))]) (w : WS D aC ad A H0 M H locs) : W p l e rm_X11_bests s m args below meth c H locs 0 0 Q (F0 m 0 ls []) := by
  have hx := X.1.1
  have hb := X.1.2.1
  unfold f_X11_bests at hf
  refine lv_iload_n hx hb dX11_bests_0 rfl (lv_at hl 1 rfl) ?_
  refine g_iconst X dX11_bests_1 ?_
  refine lv_aload_n hx hb dX11_bests_2 rfl (lv_at hl 0 rfl) ?_
  refine g_geti X w fg_X11_153 KD_80 FR_80_14 dX11_bests_3 ?_
  obtain ⟨r, hc, hf⟩ := obn_some hf
  refine g_csi (As := [.int (i2 p1), .int (i2 0), .int (i2 (M 80 14))]) (rest := []) X w (k_X11_within X.2.2.1 p1 hp1 0 (inL rfl) (M 80 14) (w.2.2 _ _) w.2.2 hc) lk_X11_145 ⟨rfl, rfl⟩ ⟨nle rfl, nle rfl⟩ ⟨nle rfl, nle rfl⟩ hl.1 rfl (nle rfl) dX11_bests_6 (fun hr H locs w => ?_)
  refine g_if_eq (tgt := 20) X hr dX11_bests_9 (by decide) (fun cd => ?_) (fun cd => ?_)
  · replace hf := ite_t cd hf
    refine g_iconst X dX11_bests_20 ?_
    exact HR (-1) M _ _ _ _ (Option.some.inj hf).symm (inL rfl) w dX11_bests_21
  · replace hf := ite_f cd hf
    refine lv_aload_n hx hb dX11_bests_12 rfl (lv_at hl 0 rfl) ?_
    refine lv_iload_n hx hb dX11_bests_13 rfl (lv_at hl 1 rfl) ?_
    obtain ⟨r_2, hc, hf⟩ := obn_some hf
    refine g_cvi (As := [.int (i2 p1)]) (rest := []) X w (k_X11_cameBy X.2.2.1 p1 hp1 w.2.2 hc) lk_X11_343 cl_11 KD_80 ⟨rfl, rfl⟩ ⟨nle rfl, nle rfl⟩ ⟨nle rfl, nle rfl⟩ hl.1 rfl (nle rfl) dX11_bests_14 (fun hr_2 H locs w => ?_)
    refine g_if_ne (tgt := 22) X hr_2 dX11_bests_17 (by decide) (fun cd_2 => ?_) (fun cd_2 => ?_)
    · replace hf := ite_f cd_2 hf
      refine lv_aload_n hx hb dX11_bests_22 rfl (lv_at hl 0 rfl) ?_
      refine lv_iload_n hx hb dX11_bests_23 rfl (lv_at hl 1 rfl) ?_
      obtain ⟨r_3, hc, hf⟩ := obn_some hf
      refine g_cvi (As := [.int (i2 p1)]) (rest := []) X w (k_X11_cameBy X.2.2.1 p1 hp1 w.2.2 hc) lk_X11_343 cl_11 KD_80 ⟨rfl, rfl⟩ ⟨nle rfl, nle rfl⟩ ⟨nle rfl, nle rfl⟩ hl.1 rfl (nle rfl) dX11_bests_24 (fun hr_3 H locs w => ?_)
      refine g_bipush X dX11_bests_27 (by decide) ?_
      refine g_icmp_le (tgt := 35) X hr_3 (inL rfl) dX11_bests_29 (by decide) (fun cd_3 => ?_) (fun cd_3 => ?_)
      · replace hf := ite_t cd_3 hf
        refine lv_aload_n hx hb dX11_bests_35 rfl (lv_at hl 0 rfl) ?_
        refine g_geti X w fg_X11_156 KD_80 FR_80_43 dX11_bests_36 ?_
        refine g_if_eq (tgt := 70) X (w.2.2 _ _) dX11_bests_39 (by decide) (fun cd_4 => ?_) (fun cd_4 => ?_)
        · replace hf := ite_t cd_4 hf
          refine lv_aload_n hx hb dX11_bests_70 rfl (lv_at hl 0 rfl) ?_
          refine lv_iload_n hx hb dX11_bests_71 rfl (lv_at hl 1 rfl) ?_
          obtain ⟨M_2, hc, hf⟩ := obn_some hf
          refine g_cvv (As := [.int (i2 p1)]) (rest := []) X w (k_X11_learns X.2.2.1 p1 hp1 w.2.2 hc) lk_X11_322 cl_11 KD_80 ⟨rfl, rfl⟩ ⟨nle rfl, nle rfl⟩ ⟨nle rfl, nle rfl⟩ hl.1 rfl (nle rfl) dX11_bests_72 (fun H locs w_M_2 => ?_)
          refine g_iconst X dX11_bests_75 ?_
          refine g_istn (v := 0) (lv' := [(2, .int (i2 0)), (0, .ref (ad 80)), (1, .int (i2 p1))]) X rfl dX11_bests_76 rfl hl (by decide) rfl (fun ls hl => ?_)
          obtain ⟨q, hq, h1⟩ := obn_some hf
          exact l_X11_bests_77 X p1 hp1 (out := q) (fun y2 M1 H locs ls eq hy2 hl w => b_X11_bests_j112 X  HR p1 hp1 M1 (by subst eq; exact h1) (lv_sub hl [0, 1] rfl) w)  FU 0 M_2 hq (inL rfl) (lv_sub hl [1, 2, 0] rfl) w_M_2
        · replace hf := ite_f cd_4 hf
          refine lv_iload_n hx hb dX11_bests_42 rfl (lv_at hl 1 rfl) ?_
          refine lv_aload_n hx hb dX11_bests_43 rfl (lv_at hl 0 rfl) ?_
          refine g_geti X w fg_X11_346 KD_80 FR_80_44 dX11_bests_44 ?_
          refine g_icmp_ne (tgt := 70) X hp1 (w.2.2 _ _) dX11_bests_47 (by decide) (fun cd_5 => ?_) (fun cd_5 => ?_)
          · replace hf := ite_f cd_5 hf
            refine lv_aload_n hx hb dX11_bests_70 rfl (lv_at hl 0 rfl) ?_
            refine lv_iload_n hx hb dX11_bests_71 rfl (lv_at hl 1 rfl) ?_
            obtain ⟨M_3, hc, hf⟩ := obn_some hf
            refine g_cvv (As := [.int (i2 p1)]) (rest := []) X w (k_X11_learns X.2.2.1 p1 hp1 w.2.2 hc) lk_X11_322 cl_11 KD_80 ⟨rfl, rfl⟩ ⟨nle rfl, nle rfl⟩ ⟨nle rfl, nle rfl⟩ hl.1 rfl (nle rfl) dX11_bests_72 (fun H locs w_M_3 => ?_)
            refine g_iconst X dX11_bests_75 ?_
            refine g_istn (v := 0) (lv' := [(2, .int (i2 0)), (0, .ref (ad 80)), (1, .int (i2 p1))]) X rfl dX11_bests_76 rfl hl (by decide) rfl (fun ls hl => ?_)
            obtain ⟨q, hq, h1⟩ := obn_some hf
            exact l_X11_bests_77 X p1 hp1 (out := q) (fun y2 M1 H locs ls eq hy2 hl w => b_X11_bests_j112 X  HR p1 hp1 M1 (by subst eq; exact h1) (lv_sub hl [0, 1] rfl) w)  FU 0 M_3 hq (inL rfl) (lv_sub hl [1, 2, 0] rfl) w_M_3
          · replace hf := ite_t cd_5 hf
            refine lv_aload_n hx hb dX11_bests_50 rfl (lv_at hl 0 rfl) ?_
            refine g_geti X w fg_X11_349 KD_80 FR_80_45 dX11_bests_51 ?_
            refine g_ldcw X kc_X11_336 dX11_bests_54 ?_
            refine g_icmp_ne (tgt := 65) X (w.2.2 _ _) (inL rfl) dX11_bests_57 (by decide) (fun cd_6 => ?_) (fun cd_6 => ?_)
            · replace hf := ite_f cd_6 hf
              refine lv_aload_n hx hb dX11_bests_65 rfl (lv_at hl 0 rfl) ?_
              refine g_geti X w fg_X11_349 KD_80 FR_80_45 dX11_bests_66 ?_
              exact HR (M 80 45) M _ _ _ _ (Option.some.inj hf).symm (w.2.2 _ _) w dX11_bests_69
            · replace hf := ite_t cd_6 hf
              refine g_bipush X dX11_bests_60 (by decide) ?_
              refine lv_goto (tgt := 69) hx hb dX11_bests_62 (by decide) ?_
              exact HR (-2) M _ _ _ _ (Option.some.inj hf).symm (inL rfl) w dX11_bests_69
      · replace hf := ite_f cd_3 hf
        refine g_bipush X dX11_bests_32 (by decide) ?_
        exact HR (-3) M _ _ _ _ (Option.some.inj hf).symm (inL rfl) w dX11_bests_34
    · replace hf := ite_t cd_2 hf
      refine g_iconst X dX11_bests_20 ?_
      exact HR (-1) M _ _ _ _ (Option.some.inj hf).symm (inL rfl) w dX11_bests_21
set_option maxRecDepth 100000 in
set_option maxHeartbeats 4000000 in
theorem k_X11_bests {l : Launch} {D : va_G} {aC : Nat → ClassId} {ad : Nat → Nat} {sg : SG} (hi : Inj ad) (p1 : Int) (hp1 : inR p1) {M : Mem} (hM : inM M) {r : Int} {M' : Mem} (hf : f_X11_bests p1 M = some (r, M')) : MetI l D aC ad sg yX11_bests cX11_bests 4 (some .int) rm_X11_bests 0 0 [.ref (ad 80), .int (i2 p1)] M r M' := by
  refine MetI.ofI (by decide +kernel) (nle rfl) hi hM (fun p e s m args below meth c Q H0 ls X hl w hret => ?_)
  exact b_X11_bests_0 X  (fun r1 M1 H locs pc ls eo hP w dg => by cases eo; exact hret H locs pc ls hP w dg) p1 hp1 M hf hl w
set_option maxRecDepth 100000 in
set_option maxHeartbeats 4000000 in
theorem b_X11_plan_0 (X : CX p s m args c cX11_plan 2 RX11 D aC ad sg A H0) {o : Int × Mem} (HR : ∀ (r : Int) (M1 : Mem) (H : Heap) (locs : List Loc) (pc : Nat) (ls : Array Slot), o = (r, M1) → inR r → WS D aC ad A H0 M1 H locs → decode cX11_plan pc = .ok (.ireturn, 1) → W p l e rm_X11_plan s m args below meth c H locs 0 0 Q (F0 m pc ls [.int (i2 r)])) (p1 : Int) (hp1 : inR p1) (M : Mem) (hf : f_X11_plan p1 M = some o) {H : Heap} {locs : List Loc} {ls : Array Slot} (hl : lv_has ls 2 [(0, .ref (ad 80)), (1, .int (i2 p1))]) (w : WS D aC ad A H0 M H locs) : W p l e rm_X11_plan s m args below meth c H locs 0 0 Q (F0 m 0 ls []) := by
  have hx := X.1.1
  have hb := X.1.2.1
  unfold f_X11_plan at hf
  refine lv_aload_n hx hb dX11_plan_0 rfl (lv_at hl 0 rfl) ?_
  refine g_iconst X dX11_plan_1 ?_
  obtain ⟨M_2, eM_2, hf⟩ := lt_some hf
  refine g_puti X w fp_X11_139 KD_80 FR_80_0 (inL rfl) dX11_plan_2 (fun H locs w_M_2 => ?_)
  rw [← eM_2] at w_M_2
  refine lv_aload_n hx hb dX11_plan_5 rfl (lv_at hl 0 rfl) ?_
  refine lv_iload_n hx hb dX11_plan_6 rfl (lv_at hl 1 rfl) ?_
  obtain ⟨r, M_3, hc, hf⟩ := bnd_some hf
  refine g_cvi (As := [.int (i2 p1)]) (rest := []) X w_M_2 (k_X11_bests X.2.2.1 p1 hp1 w_M_2.2.2 hc) lk_X11_364 cl_11 KD_80 ⟨rfl, rfl⟩ ⟨nle rfl, nle rfl⟩ ⟨nle rfl, nle rfl⟩ hl.1 rfl (nle rfl) dX11_plan_7 (fun hr H locs w_M_3 => ?_)
  exact HR r M_3 _ _ _ _ (Option.some.inj hf).symm hr w_M_3 dX11_plan_10
set_option maxRecDepth 100000 in
set_option maxHeartbeats 4000000 in
theorem k_X11_plan {l : Launch} {D : va_G} {aC : Nat → ClassId} {ad : Nat → Nat} {sg : SG} (hi : Inj ad) (p1 : Int) (hp1 : inR p1) {M : Mem} (hM : inM M) {r : Int} {M' : Mem} (hf : f_X11_plan p1 M = some (r, M')) : MetI l D aC ad sg yX11_plan cX11_plan 2 (some .int) rm_X11_plan 0 0 [.ref (ad 80), .int (i2 p1)] M r M' := by
  refine MetI.ofI (by decide +kernel) (nle rfl) hi hM (fun p e s m args below meth c Q H0 ls X hl w hret => ?_)
  exact b_X11_plan_0 X  (fun r1 M1 H locs pc ls eo hP w dg => by cases eo; exact hret H locs pc ls hP w dg) p1 hp1 M hf hl w
set_option maxRecDepth 100000 in
set_option maxHeartbeats 4000000 in
theorem b_X11_planned_0 (X : CX p s m args c cX11_planned 3 RX11 D aC ad sg A H0) {o : Int × Mem} (HR : ∀ (r : Int) (M1 : Mem) (H : Heap) (locs : List Loc) (pc : Nat) (ls : Array Slot), o = (r, M1) → inR r → WS D aC ad A H0 M1 H locs → decode cX11_planned pc = .ok (.ireturn, 1) → W p l e rm_X11_planned s m args below meth c H locs 0 0 Q (F0 m pc ls [.int (i2 r)])) (p1 : Int) (hp1 : inR p1) (p2 : Int) (hp2 : inR p2) (M : Mem) (hf : f_X11_planned p1 p2 M = some o) {H : Heap} {locs : List Loc} {ls : Array Slot} (hl : lv_has ls 3 [(0, .ref (ad 80)), (1, .int (i2 p1)), (2, .int (i2 p2))]) (w : WS D aC ad A H0 M H locs) : W p l e rm_X11_planned s m args below meth c H locs 0 0 Q (F0 m 0 ls []) := by
  have hx := X.1.1
  have hb := X.1.2.1
  unfold f_X11_planned at hf
  refine lv_aload_n hx hb dX11_planned_0 rfl (lv_at hl 0 rfl) ?_
  refine g_iconst X dX11_planned_1 ?_
  obtain ⟨M_2, eM_2, hf⟩ := lt_some hf
  refine g_puti X w fp_X11_139 KD_80 FR_80_0 (inL rfl) dX11_planned_2 (fun H locs w_M_2 => ?_)
  rw [← eM_2] at w_M_2
  refine lv_aload_n hx hb dX11_planned_5 rfl (lv_at hl 0 rfl) ?_
  refine lv_iload_n hx hb dX11_planned_6 rfl (lv_at hl 1 rfl) ?_
  obtain ⟨r, M_3, hc, hf⟩ := bnd_some hf
  refine g_cvi (As := [.int (i2 p1)]) (rest := []) X w_M_2 (k_X11_bests X.2.2.1 p1 hp1 w_M_2.2.2 hc) lk_X11_364 cl_11 KD_80 ⟨rfl, rfl⟩ ⟨nle rfl, nle rfl⟩ ⟨nle rfl, nle rfl⟩ hl.1 rfl (nle rfl) dX11_planned_7 (fun hr H locs w_M_3 => ?_)
  refine g_if_lt (tgt := 30) X hr dX11_planned_10 (by decide) (fun cd => ?_) (fun cd => ?_)
  · replace hf := ite_t cd hf
    refine g_iconst X dX11_planned_30 ?_
    exact HR (-1) M_3 _ _ _ _ (Option.some.inj hf).symm (inL rfl) w_M_3 dX11_planned_31
  · replace hf := ite_f cd hf
    refine lv_aload_n hx hb dX11_planned_13 rfl (lv_at hl 0 rfl) ?_
    refine lv_iload_n hx hb dX11_planned_14 rfl (lv_at hl 2 rfl) ?_
    obtain ⟨r_2, hc, hf⟩ := obn_some hf
    refine g_cvi (As := [.int (i2 p2)]) (rest := []) X w_M_3 (k_X11_isChild X.2.2.1 p2 hp2 w_M_3.2.2 hc) lk_X11_149 cl_11 KD_80 ⟨rfl, rfl⟩ ⟨nle rfl, nle rfl⟩ ⟨nle rfl, nle rfl⟩ hl.1 rfl (nle rfl) dX11_planned_15 (fun hr_2 H locs w_M_3 => ?_)
    refine g_if_eq (tgt := 30) X hr_2 dX11_planned_18 (by decide) (fun cd_2 => ?_) (fun cd_2 => ?_)
    · replace hf := ite_t cd_2 hf
      refine g_iconst X dX11_planned_30 ?_
      exact HR (-1) M_3 _ _ _ _ (Option.some.inj hf).symm (inL rfl) w_M_3 dX11_planned_31
    · replace hf := ite_f cd_2 hf
      refine lv_aload_n hx hb dX11_planned_21 rfl (lv_at hl 0 rfl) ?_
      refine g_getr X w_M_3 fg_X11_103 KD_80 FR_80_42 dX11_planned_22 ?_
      refine lv_iload_n hx hb dX11_planned_25 rfl (lv_at hl 2 rfl) ?_
      obtain ⟨hg, hf⟩ := gd_some hf
      refine g_iald X w_M_3 KD_109 hp2 hg dX11_planned_26 ?_
      refine lv_goto (tgt := 31) hx hb dX11_planned_27 (by decide) ?_
      exact HR (M_3 109 p2.toNat) M_3 _ _ _ _ (Option.some.inj hf).symm (w_M_3.2.2 _ _) w_M_3 dX11_planned_31
set_option maxRecDepth 100000 in
set_option maxHeartbeats 4000000 in
theorem k_X11_planned {l : Launch} {D : va_G} {aC : Nat → ClassId} {ad : Nat → Nat} {sg : SG} (hi : Inj ad) (p1 : Int) (hp1 : inR p1) (p2 : Int) (hp2 : inR p2) {M : Mem} (hM : inM M) {r : Int} {M' : Mem} (hf : f_X11_planned p1 p2 M = some (r, M')) : MetI l D aC ad sg yX11_planned cX11_planned 3 (some .int) rm_X11_planned 0 0 [.ref (ad 80), .int (i2 p1), .int (i2 p2)] M r M' := by
  refine MetI.ofI (by decide +kernel) (nle rfl) hi hM (fun p e s m args below meth c Q H0 ls X hl w hret => ?_)
  exact b_X11_planned_0 X  (fun r1 M1 H locs pc ls eo hP w dg => by cases eo; exact hret H locs pc ls hP w dg) p1 hp1 p2 hp2 M hf hl w
set_option maxRecDepth 100000 in
set_option maxHeartbeats 4000000 in
theorem b_X11_keep_s22 (X : CX p s m args c cX11_keep 3 RX11 D aC ad sg A H0) (v1 : Int) (hv1 : inR v1) {o : (Int × Mem) ⊕ (Int × Mem)} (HC : ∀ (y2 : Int) (M1 : Mem) (H : Heap) (locs : List Loc) (ls : Array Slot), o = .inl (y2, M1) → inR y2 → lv_has ls 3 [(0, .ref (ad 80)), (1, .int (i2 v1)), (2, .int (i2 y2))] → WS D aC ad A H0 M1 H locs → W p l e rm_X11_keep s m args below meth c H locs 0 0 Q (F0 m 22 ls [])) (HE : ∀ (y2 : Int) (M1 : Mem) (H : Heap) (locs : List Loc) (ls : Array Slot), o = .inr (y2, M1) → inR y2 → lv_has ls 3 [(0, .ref (ad 80)), (1, .int (i2 v1)), (2, .int (i2 y2))] → WS D aC ad A H0 M1 H locs → W p l e rm_X11_keep s m args below meth c H locs 0 0 Q (F0 m 48 ls [])) (v2 : Int) (hv2 : inR v2) (M : Mem) (hf : f_X11_keep_s22 v1 v2 M = some o) {H : Heap} {locs : List Loc} {ls : Array Slot} (hl : lv_has ls 3 [(0, .ref (ad 80)), (1, .int (i2 v1)), (2, .int (i2 v2))]) (w : WS D aC ad A H0 M H locs) : W p l e rm_X11_keep s m args below meth c H locs 0 0 Q (F0 m 22 ls []) := by
  have hx := X.1.1
  have hb := X.1.2.1
  unfold f_X11_keep_s22 at hf
  refine lv_iload_n hx hb dX11_keep_22 rfl (lv_at hl 2 rfl) ?_
  refine lv_aload_n hx hb dX11_keep_23 rfl (lv_at hl 0 rfl) ?_
  refine g_geti X w fg_X11_142 KD_80 FR_80_1 dX11_keep_24 ?_
  refine g_icmp_ge (tgt := 48) X hv2 (w.2.2 _ _) dX11_keep_27 (by decide) (fun cd => ?_) (fun cd => ?_)
  · replace hf := ite_t cd hf
    exact HE v2 M _ _ _ (Option.some.inj hf).symm hv2 hl w
  · replace hf := ite_f cd hf
    refine lv_aload_n hx hb dX11_keep_30 rfl (lv_at hl 0 rfl) ?_
    refine g_getr X w fg_X11_106 KD_80 FR_80_47 dX11_keep_31 ?_
    refine lv_iload_n hx hb dX11_keep_34 rfl (lv_at hl 2 rfl) ?_
    refine lv_aload_n hx hb dX11_keep_35 rfl (lv_at hl 0 rfl) ?_
    refine g_getr X w fg_X11_103 KD_80 FR_80_42 dX11_keep_36 ?_
    refine lv_iload_n hx hb dX11_keep_39 rfl (lv_at hl 2 rfl) ?_
    obtain ⟨hg, hf⟩ := gd_some hf
    refine g_iald X w KD_109 hv2 hg dX11_keep_40 ?_
    obtain ⟨hg_2, hf⟩ := gd_some hf
    obtain ⟨M_2, eM_2, hf⟩ := lt_some hf
    refine g_iast X w KD_110 hv2 hg_2 (w.2.2 _ _) dX11_keep_41 (fun H locs w_M_2 => ?_)
    rw [← eM_2] at w_M_2
    obtain ⟨v2_2, ev2_2, hf⟩ := lt_some hf
    have hv2_2 : inR v2_2 := inR_of ev2_2 (inR_wrap _)
    refine lv_iinc (v := i2 v2_2) (lv' := [(2, .int (i2 v2_2)), (0, .ref (ad 80)), (1, .int (i2 v1))]) hx hb dX11_keep_42 hl (k := 2) rfl (by rw [ev2_2]; exact i2_add _ _) (by decide) rfl (fun ls hl => ?_)
    refine lv_goto (tgt := 22) hx hb dX11_keep_45 (by decide) ?_
    exact HC v2_2 M_2 _ _ _ (Option.some.inj hf).symm hv2_2 (lv_sub hl [1, 2, 0] rfl) w_M_2
set_option maxRecDepth 100000 in
set_option maxHeartbeats 4000000 in
theorem l_X11_keep_22 (X : CX p s m args c cX11_keep 3 RX11 D aC ad sg A H0) (v1 : Int) (hv1 : inR v1) {out : Int × Mem} (HE : ∀ (y2 : Int) (M1 : Mem) (H : Heap) (locs : List Loc) (ls : Array Slot), out = (y2, M1) → inR y2 → lv_has ls 3 [(0, .ref (ad 80)), (1, .int (i2 v1)), (2, .int (i2 y2))] → WS D aC ad A H0 M1 H locs → W p l e rm_X11_keep s m args below meth c H locs 0 0 Q (F0 m 48 ls [])) : ∀ (n : Nat) (v2 : Int) (M : Mem), whl (fun s => f_X11_keep_s22 v1 s.1 s.2) n (v2, M) = some out → inR v2 → ∀ {H : Heap} {locs : List Loc} {ls : Array Slot}, lv_has ls 3 [(0, .ref (ad 80)), (1, .int (i2 v1)), (2, .int (i2 v2))] → WS D aC ad A H0 M H locs → W p l e rm_X11_keep s m args below meth c H locs 0 0 Q (F0 m 22 ls []) := by
  intro n
  induction n with
  | zero => intro v2 M hf; exact (whl_zero hf).elim
  | succ n ih =>
    intro v2 M hf hv2 H locs ls hl w
    obtain ⟨o, hf, hk1, hk2⟩ := whl_step hf
    exact b_X11_keep_s22 X v1 hv1 (fun y2 M1 H locs ls eo hy2 hl w => ih y2 M1 (hk1 _ eo) hy2 hl w) (fun y2 M1 H locs ls eo hy2 hl w => HE y2 M1 H locs ls (hk2 _ eo).symm hy2 hl w) v2 hv2 M hf hl w
set_option maxRecDepth 100000 in
set_option maxHeartbeats 4000000 in
theorem b_X11_keep_j48 (X : CX p s m args c cX11_keep 3 RX11 D aC ad sg A H0) {o : Int × Mem} (HR : ∀ (r : Int) (M1 : Mem) (H : Heap) (locs : List Loc) (pc : Nat) (ls : Array Slot), o = (r, M1) → inR r → WS D aC ad A H0 M1 H locs → decode cX11_keep pc = .ok (.ireturn, 1) → W p l e rm_X11_keep s m args below meth c H locs 0 0 Q (F0 m pc ls [.int (i2 r)])) (v1 : Int) (hv1 : inR v1) (M : Mem) (hf : f_X11_keep_j48 v1 M = some o) {H : Heap} {locs : List Loc} {ls : Array Slot} (hl : lv_has ls 3 [(1, .int (i2 v1))]) (w : WS D aC ad A H0 M H locs) : W p l e rm_X11_keep s m args below meth c H locs 0 0 Q (F0 m 48 ls []) := by
  have hx := X.1.1
  have hb := X.1.2.1
  unfold f_X11_keep_j48 at hf
  refine lv_iload_n hx hb dX11_keep_48 rfl (lv_at hl 0 rfl) ?_
  exact HR v1 M _ _ _ _ (Option.some.inj hf).symm hv1 w dX11_keep_49
set_option maxRecDepth 100000 in
set_option maxHeartbeats 4000000 in
theorem b_X11_keep_0 (X : CX p s m args c cX11_keep 3 RX11 D aC ad sg A H0) {o : Int × Mem} (HR : ∀ (r : Int) (M1 : Mem) (H : Heap) (locs : List Loc) (pc : Nat) (ls : Array Slot), o = (r, M1) → inR r → WS D aC ad A H0 M1 H locs → decode cX11_keep pc = .ok (.ireturn, 1) → W p l e rm_X11_keep s m args below meth c H locs 0 0 Q (F0 m pc ls [.int (i2 r)])) (M : Mem) (hf : f_X11_keep M = some o) {H : Heap} {locs : List Loc} {ls : Array Slot} (hl : lv_has ls 3 [(0, .ref (ad 80))]) (w : WS D aC ad A H0 M H locs) : W p l e rm_X11_keep s m args below meth c H locs 0 0 Q (F0 m 0 ls []) := by
  have hx := X.1.1
  have hb := X.1.2.1
  unfold f_X11_keep at hf
  refine lv_aload_n hx hb dX11_keep_0 rfl (lv_at hl 0 rfl) ?_
  refine g_iconst X dX11_keep_1 ?_
  obtain ⟨M_2, eM_2, hf⟩ := lt_some hf
  refine g_puti X w fp_X11_139 KD_80 FR_80_0 (inL rfl) dX11_keep_2 (fun H locs w_M_2 => ?_)
  rw [← eM_2] at w_M_2
  refine lv_aload_n hx hb dX11_keep_5 rfl (lv_at hl 0 rfl) ?_
  refine lv_aload_n hx hb dX11_keep_6 rfl (lv_at hl 0 rfl) ?_
  refine g_geti X w_M_2 fg_X11_153 KD_80 FR_80_14 dX11_keep_7 ?_
  obtain ⟨r, M_3, hc, hf⟩ := bnd_some hf
  refine g_cvi (As := [.int (i2 (M_2 80 14))]) (rest := []) X w_M_2 (k_X11_bests X.2.2.1 (M_2 80 14) (w_M_2.2.2 _ _) w_M_2.2.2 hc) lk_X11_364 cl_11 KD_80 ⟨rfl, rfl⟩ ⟨nle rfl, nle rfl⟩ ⟨nle rfl, nle rfl⟩ hl.1 rfl (nle rfl) dX11_keep_10 (fun hr H locs w_M_3 => ?_)
  refine g_istn (v := r) (lv' := [(1, .int (i2 r)), (0, .ref (ad 80))]) X rfl dX11_keep_13 rfl hl (by decide) rfl (fun ls hl => ?_)
  refine lv_iload_n hx hb dX11_keep_14 rfl (lv_at hl 0 rfl) ?_
  refine g_if_ge (tgt := 20) X hr dX11_keep_15 (by decide) (fun cd => ?_) (fun cd => ?_)
  · replace hf := ite_t cd hf
    refine g_iconst X dX11_keep_20 ?_
    refine g_istn (v := 0) (lv' := [(2, .int (i2 0)), (1, .int (i2 r)), (0, .ref (ad 80))]) X rfl dX11_keep_21 rfl hl (by decide) rfl (fun ls hl => ?_)
    obtain ⟨q, hq, h1⟩ := obn_some hf
    exact l_X11_keep_22 X r hr (out := q) (fun y2 M1 H locs ls eq hy2 hl w => b_X11_keep_j48 X  HR r hr M1 (by subst eq; exact h1) (lv_sub hl [1] rfl) w)  FU 0 M_3 hq (inL rfl) (lv_sub hl [2, 1, 0] rfl) w_M_3
  · replace hf := ite_f cd hf
    refine lv_iload_n hx hb dX11_keep_18 rfl (lv_at hl 0 rfl) ?_
    exact HR r M_3 _ _ _ _ (Option.some.inj hf).symm hr w_M_3 dX11_keep_19
set_option maxRecDepth 100000 in
set_option maxHeartbeats 4000000 in
theorem k_X11_keep {l : Launch} {D : va_G} {aC : Nat → ClassId} {ad : Nat → Nat} {sg : SG} (hi : Inj ad)  {M : Mem} (hM : inM M) {r : Int} {M' : Mem} (hf : f_X11_keep M = some (r, M')) : MetI l D aC ad sg yX11_keep cX11_keep 3 (some .int) rm_X11_keep 0 0 [.ref (ad 80)] M r M' := by
  refine MetI.ofI (by decide +kernel) (nle rfl) hi hM (fun p e s m args below meth c Q H0 ls X hl w hret => ?_)
  exact b_X11_keep_0 X  (fun r1 M1 H locs pc ls eo hP w dg => by cases eo; exact hret H locs pc ls hP w dg) M hf hl w
set_option maxRecDepth 100000 in
set_option maxHeartbeats 4000000 in
theorem b_X11_softest_s10 (X : CX p s m args c cX11_softest 7 RX11 D aC ad sg A H0) (v1 : Int) (hv1 : inR v1) (v2 : Int) (hv2 : inR v2) {o : (Int × Int × Int × Mem) ⊕ (Int × Int × Int × Mem)} (HC : ∀ (y3 : Int) (y4 : Int) (y5 : Int) (M1 : Mem) (H : Heap) (locs : List Loc) (ls : Array Slot), o = .inl (y3, y4, y5, M1) → inR y3 → inR y4 → inR y5 → lv_has ls 7 [(0, .ref (ad 80)), (1, .int (i2 v1)), (2, .int (i2 v2)), (3, .int (i2 y3)), (4, .int (i2 y4)), (5, .int (i2 y5))] → WS D aC ad A H0 M1 H locs → W p l e rm_X11_softest s m args below meth c H locs 0 0 Q (F0 m 10 ls [])) (HE : ∀ (y3 : Int) (y4 : Int) (y5 : Int) (M1 : Mem) (H : Heap) (locs : List Loc) (ls : Array Slot), o = .inr (y3, y4, y5, M1) → inR y3 → inR y4 → inR y5 → lv_has ls 7 [(0, .ref (ad 80)), (1, .int (i2 v1)), (2, .int (i2 v2)), (3, .int (i2 y3)), (4, .int (i2 y4)), (5, .int (i2 y5))] → WS D aC ad A H0 M1 H locs → W p l e rm_X11_softest s m args below meth c H locs 0 0 Q (F0 m 77 ls [])) (v3 : Int) (hv3 : inR v3) (v4 : Int) (hv4 : inR v4) (v5 : Int) (hv5 : inR v5) (M : Mem) (hf : f_X11_softest_s10 v1 v2 v3 v4 v5 M = some o) {H : Heap} {locs : List Loc} {ls : Array Slot} (hl : lv_has ls 7 [(0, .ref (ad 80)), (1, .int (i2 v1)), (2, .int (i2 v2)), (3, .int (i2 v3)), (4, .int (i2 v4)), (5, .int (i2 v5))]) (w : WS D aC ad A H0 M H locs) : W p l e rm_X11_softest s m args below meth c H locs 0 0 Q (F0 m 10 ls []) := by
  have hx := X.1.1
  have hb := X.1.2.1
  unfold f_X11_softest_s10 at hf
  refine lv_iload hx hb dX11_softest_10 (lv_at hl 5 rfl) ?_
  refine lv_aload_n hx hb dX11_softest_12 rfl (lv_at hl 0 rfl) ?_
  refine g_geti X w fg_X11_41 KD_80 FR_80_12 dX11_softest_13 ?_
  refine g_icmp_ge (tgt := 77) X hv5 (w.2.2 _ _) dX11_softest_16 (by decide) (fun cd => ?_) (fun cd => ?_)
  · replace hf := ite_t cd hf
    exact HE v3 v4 v5 M _ _ _ (Option.some.inj hf).symm hv3 hv4 hv5 hl w
  · replace hf := ite_f cd hf
    refine lv_aload_n hx hb dX11_softest_19 rfl (lv_at hl 0 rfl) ?_
    refine g_getr X w fg_X11_100 KD_80 FR_80_41 dX11_softest_20 ?_
    refine lv_iload_n hx hb dX11_softest_23 rfl (lv_at hl 1 rfl) ?_
    refine lv_iload hx hb dX11_softest_24 (lv_at hl 5 rfl) ?_
    obtain ⟨hg, hf⟩ := gd_some hf
    obtain ⟨M_2, eM_2, hf⟩ := lt_some hf
    refine g_iast X w KD_108 hv1 hg hv5 dX11_softest_26 (fun H locs w_M_2 => ?_)
    rw [← eM_2] at w_M_2
    refine lv_aload_n hx hb dX11_softest_27 rfl (lv_at hl 0 rfl) ?_
    obtain ⟨r, hc, hf⟩ := obn_some hf
    refine g_cvi (As := []) (rest := []) X w_M_2 (k_X11_isSound X.2.2.1  w_M_2.2.2 hc) lk_X11_352 cl_11 KD_80 ⟨rfl, rfl⟩ ⟨nle rfl, nle rfl⟩ ⟨nle rfl, nle rfl⟩ hl.1 rfl (nle rfl) dX11_softest_28 (fun hr H locs w_M_2 => ?_)
    refine g_if_eq (tgt := 71) X hr dX11_softest_31 (by decide) (fun cd_2 => ?_) (fun cd_2 => ?_)
    · replace hf := ite_t cd_2 hf
      obtain ⟨v5_2, ev5_2, hf⟩ := lt_some hf
      have hv5_2 : inR v5_2 := inR_of ev5_2 (inR_wrap _)
      refine lv_iinc (v := i2 v5_2) (lv' := [(5, .int (i2 v5_2)), (0, .ref (ad 80)), (1, .int (i2 v1)), (2, .int (i2 v2)), (3, .int (i2 v3)), (4, .int (i2 v4))]) hx hb dX11_softest_71 hl (k := 5) rfl (by rw [ev5_2]; exact i2_add _ _) (by decide) rfl (fun ls hl => ?_)
      refine lv_goto (tgt := 10) hx hb dX11_softest_74 (by decide) ?_
      exact HC v3 v4 v5_2 M_2 _ _ _ (Option.some.inj hf).symm hv3 hv4 hv5_2 (lv_sub hl [1, 2, 3, 4, 5, 0] rfl) w_M_2
    · replace hf := ite_f cd_2 hf
      refine lv_iload_n hx hb dX11_softest_34 rfl (lv_at hl 2 rfl) ?_
      refine g_if_eq (tgt := 48) X hv2 dX11_softest_35 (by decide) (fun cd_3 => ?_) (fun cd_3 => ?_)
      · replace hf := ite_t cd_3 hf
        refine lv_aload_n hx hb dX11_softest_48 rfl (lv_at hl 0 rfl) ?_
        obtain ⟨r_2, hc, hf⟩ := obn_some hf
        refine g_cvi (As := []) (rest := []) X w_M_2 (k_X11_allHarm X.2.2.1  w_M_2.2.2 hc) lk_X11_358 cl_11 KD_80 ⟨rfl, rfl⟩ ⟨nle rfl, nle rfl⟩ ⟨nle rfl, nle rfl⟩ hl.1 rfl (nle rfl) dX11_softest_49 (fun hr_2 H locs w_M_2 => ?_)
        refine g_ist (v := r_2) (lv' := [(6, .int (i2 r_2)), (0, .ref (ad 80)), (1, .int (i2 v1)), (2, .int (i2 v2)), (3, .int (i2 v3)), (4, .int (i2 v4)), (5, .int (i2 v5))]) X rfl dX11_softest_52 hl (by decide) rfl (fun ls hl => ?_)
        refine lv_iload hx hb dX11_softest_54 (lv_at hl 0 rfl) ?_
        refine lv_iload hx hb dX11_softest_56 (lv_at hl 5 rfl) ?_
        refine g_icmp_lt (tgt := 64) X hr_2 hv4 dX11_softest_58 (by decide) (fun cd_4 => ?_) (fun cd_4 => ?_)
        · replace hf := ite_t cd_4 hf
          refine lv_iload hx hb dX11_softest_64 (lv_at hl 0 rfl) ?_
          refine g_ist (v := r_2) (lv' := [(4, .int (i2 r_2)), (6, .int (i2 r_2)), (0, .ref (ad 80)), (1, .int (i2 v1)), (2, .int (i2 v2)), (3, .int (i2 v3)), (5, .int (i2 v5))]) X rfl dX11_softest_66 hl (by decide) rfl (fun ls hl => ?_)
          refine lv_iload hx hb dX11_softest_68 (lv_at hl 6 rfl) ?_
          refine g_istn (v := v5) (lv' := [(3, .int (i2 v5)), (4, .int (i2 r_2)), (6, .int (i2 r_2)), (0, .ref (ad 80)), (1, .int (i2 v1)), (2, .int (i2 v2)), (5, .int (i2 v5))]) X rfl dX11_softest_70 rfl hl (by decide) rfl (fun ls hl => ?_)
          obtain ⟨v5_3, ev5_3, hf⟩ := lt_some hf
          have hv5_3 : inR v5_3 := inR_of ev5_3 (inR_wrap _)
          refine lv_iinc (v := i2 v5_3) (lv' := [(5, .int (i2 v5_3)), (3, .int (i2 v5)), (4, .int (i2 r_2)), (6, .int (i2 r_2)), (0, .ref (ad 80)), (1, .int (i2 v1)), (2, .int (i2 v2))]) hx hb dX11_softest_71 hl (k := 6) rfl (by rw [ev5_3]; exact i2_add _ _) (by decide) rfl (fun ls hl => ?_)
          refine lv_goto (tgt := 10) hx hb dX11_softest_74 (by decide) ?_
          exact HC v5 r_2 v5_3 M_2 _ _ _ (Option.some.inj hf).symm hv5 hr_2 hv5_3 (lv_sub hl [4, 5, 6, 1, 2, 0] rfl) w_M_2
        · replace hf := ite_f cd_4 hf
          refine lv_goto (tgt := 71) hx hb dX11_softest_61 (by decide) ?_
          obtain ⟨v5_4, ev5_4, hf⟩ := lt_some hf
          have hv5_4 : inR v5_4 := inR_of ev5_4 (inR_wrap _)
          refine lv_iinc (v := i2 v5_4) (lv' := [(5, .int (i2 v5_4)), (6, .int (i2 r_2)), (0, .ref (ad 80)), (1, .int (i2 v1)), (2, .int (i2 v2)), (3, .int (i2 v3)), (4, .int (i2 v4))]) hx hb dX11_softest_71 hl (k := 6) rfl (by rw [ev5_4]; exact i2_add _ _) (by decide) rfl (fun ls hl => ?_)
          refine lv_goto (tgt := 10) hx hb dX11_softest_74 (by decide) ?_
          exact HC v3 v4 v5_4 M_2 _ _ _ (Option.some.inj hf).symm hv3 hv4 hv5_4 (lv_sub hl [2, 3, 4, 5, 6, 0] rfl) w_M_2
      · replace hf := ite_f cd_3 hf
        refine lv_aload_n hx hb dX11_softest_38 rfl (lv_at hl 0 rfl) ?_
        obtain ⟨r_3, hc, hf⟩ := obn_some hf
        refine g_cvi (As := []) (rest := []) X w_M_2 (k_X11_lack X.2.2.1  w_M_2.2.2 hc) lk_X11_355 cl_11 KD_80 ⟨rfl, rfl⟩ ⟨nle rfl, nle rfl⟩ ⟨nle rfl, nle rfl⟩ hl.1 rfl (nle rfl) dX11_softest_39 (fun hr_3 H locs w_M_2 => ?_)
        refine g_if_le (tgt := 48) X hr_3 dX11_softest_42 (by decide) (fun cd_5 => ?_) (fun cd_5 => ?_)
        · replace hf := ite_t cd_5 hf
          refine lv_aload_n hx hb dX11_softest_48 rfl (lv_at hl 0 rfl) ?_
          obtain ⟨r_4, hc, hf⟩ := obn_some hf
          refine g_cvi (As := []) (rest := []) X w_M_2 (k_X11_allHarm X.2.2.1  w_M_2.2.2 hc) lk_X11_358 cl_11 KD_80 ⟨rfl, rfl⟩ ⟨nle rfl, nle rfl⟩ ⟨nle rfl, nle rfl⟩ hl.1 rfl (nle rfl) dX11_softest_49 (fun hr_4 H locs w_M_2 => ?_)
          refine g_ist (v := r_4) (lv' := [(6, .int (i2 r_4)), (0, .ref (ad 80)), (1, .int (i2 v1)), (2, .int (i2 v2)), (3, .int (i2 v3)), (4, .int (i2 v4)), (5, .int (i2 v5))]) X rfl dX11_softest_52 hl (by decide) rfl (fun ls hl => ?_)
          refine lv_iload hx hb dX11_softest_54 (lv_at hl 0 rfl) ?_
          refine lv_iload hx hb dX11_softest_56 (lv_at hl 5 rfl) ?_
          refine g_icmp_lt (tgt := 64) X hr_4 hv4 dX11_softest_58 (by decide) (fun cd_6 => ?_) (fun cd_6 => ?_)
          · replace hf := ite_t cd_6 hf
            refine lv_iload hx hb dX11_softest_64 (lv_at hl 0 rfl) ?_
            refine g_ist (v := r_4) (lv' := [(4, .int (i2 r_4)), (6, .int (i2 r_4)), (0, .ref (ad 80)), (1, .int (i2 v1)), (2, .int (i2 v2)), (3, .int (i2 v3)), (5, .int (i2 v5))]) X rfl dX11_softest_66 hl (by decide) rfl (fun ls hl => ?_)
            refine lv_iload hx hb dX11_softest_68 (lv_at hl 6 rfl) ?_
            refine g_istn (v := v5) (lv' := [(3, .int (i2 v5)), (4, .int (i2 r_4)), (6, .int (i2 r_4)), (0, .ref (ad 80)), (1, .int (i2 v1)), (2, .int (i2 v2)), (5, .int (i2 v5))]) X rfl dX11_softest_70 rfl hl (by decide) rfl (fun ls hl => ?_)
            obtain ⟨v5_5, ev5_5, hf⟩ := lt_some hf
            have hv5_5 : inR v5_5 := inR_of ev5_5 (inR_wrap _)
            refine lv_iinc (v := i2 v5_5) (lv' := [(5, .int (i2 v5_5)), (3, .int (i2 v5)), (4, .int (i2 r_4)), (6, .int (i2 r_4)), (0, .ref (ad 80)), (1, .int (i2 v1)), (2, .int (i2 v2))]) hx hb dX11_softest_71 hl (k := 6) rfl (by rw [ev5_5]; exact i2_add _ _) (by decide) rfl (fun ls hl => ?_)
            refine lv_goto (tgt := 10) hx hb dX11_softest_74 (by decide) ?_
            exact HC v5 r_4 v5_5 M_2 _ _ _ (Option.some.inj hf).symm hv5 hr_4 hv5_5 (lv_sub hl [4, 5, 6, 1, 2, 0] rfl) w_M_2
          · replace hf := ite_f cd_6 hf
            refine lv_goto (tgt := 71) hx hb dX11_softest_61 (by decide) ?_
            obtain ⟨v5_6, ev5_6, hf⟩ := lt_some hf
            have hv5_6 : inR v5_6 := inR_of ev5_6 (inR_wrap _)
            refine lv_iinc (v := i2 v5_6) (lv' := [(5, .int (i2 v5_6)), (6, .int (i2 r_4)), (0, .ref (ad 80)), (1, .int (i2 v1)), (2, .int (i2 v2)), (3, .int (i2 v3)), (4, .int (i2 v4))]) hx hb dX11_softest_71 hl (k := 6) rfl (by rw [ev5_6]; exact i2_add _ _) (by decide) rfl (fun ls hl => ?_)
            refine lv_goto (tgt := 10) hx hb dX11_softest_74 (by decide) ?_
            exact HC v3 v4 v5_6 M_2 _ _ _ (Option.some.inj hf).symm hv3 hv4 hv5_6 (lv_sub hl [2, 3, 4, 5, 6, 0] rfl) w_M_2
        · replace hf := ite_f cd_5 hf
          refine lv_goto (tgt := 71) hx hb dX11_softest_45 (by decide) ?_
          obtain ⟨v5_7, ev5_7, hf⟩ := lt_some hf
          have hv5_7 : inR v5_7 := inR_of ev5_7 (inR_wrap _)
          refine lv_iinc (v := i2 v5_7) (lv' := [(5, .int (i2 v5_7)), (0, .ref (ad 80)), (1, .int (i2 v1)), (2, .int (i2 v2)), (3, .int (i2 v3)), (4, .int (i2 v4))]) hx hb dX11_softest_71 hl (k := 5) rfl (by rw [ev5_7]; exact i2_add _ _) (by decide) rfl (fun ls hl => ?_)
          refine lv_goto (tgt := 10) hx hb dX11_softest_74 (by decide) ?_
          exact HC v3 v4 v5_7 M_2 _ _ _ (Option.some.inj hf).symm hv3 hv4 hv5_7 (lv_sub hl [1, 2, 3, 4, 5, 0] rfl) w_M_2
set_option maxRecDepth 100000 in
set_option maxHeartbeats 4000000 in
theorem l_X11_softest_10 (X : CX p s m args c cX11_softest 7 RX11 D aC ad sg A H0) (v1 : Int) (hv1 : inR v1) (v2 : Int) (hv2 : inR v2) {out : Int × Int × Int × Mem} (HE : ∀ (y3 : Int) (y4 : Int) (y5 : Int) (M1 : Mem) (H : Heap) (locs : List Loc) (ls : Array Slot), out = (y3, y4, y5, M1) → inR y3 → inR y4 → inR y5 → lv_has ls 7 [(0, .ref (ad 80)), (1, .int (i2 v1)), (2, .int (i2 v2)), (3, .int (i2 y3)), (4, .int (i2 y4)), (5, .int (i2 y5))] → WS D aC ad A H0 M1 H locs → W p l e rm_X11_softest s m args below meth c H locs 0 0 Q (F0 m 77 ls [])) : ∀ (n : Nat) (v3 : Int) (v4 : Int) (v5 : Int) (M : Mem), whl (fun s => f_X11_softest_s10 v1 v2 s.1 s.2.1 s.2.2.1 s.2.2.2) n (v3, v4, v5, M) = some out → inR v3 → inR v4 → inR v5 → ∀ {H : Heap} {locs : List Loc} {ls : Array Slot}, lv_has ls 7 [(0, .ref (ad 80)), (1, .int (i2 v1)), (2, .int (i2 v2)), (3, .int (i2 v3)), (4, .int (i2 v4)), (5, .int (i2 v5))] → WS D aC ad A H0 M H locs → W p l e rm_X11_softest s m args below meth c H locs 0 0 Q (F0 m 10 ls []) := by
  intro n
  induction n with
  | zero => intro v3 v4 v5 M hf; exact (whl_zero hf).elim
  | succ n ih =>
    intro v3 v4 v5 M hf hv3 hv4 hv5 H locs ls hl w
    obtain ⟨o, hf, hk1, hk2⟩ := whl_step hf
    exact b_X11_softest_s10 X v1 hv1 v2 hv2 (fun y3 y4 y5 M1 H locs ls eo hy3 hy4 hy5 hl w => ih y3 y4 y5 M1 (hk1 _ eo) hy3 hy4 hy5 hl w) (fun y3 y4 y5 M1 H locs ls eo hy3 hy4 hy5 hl w => HE y3 y4 y5 M1 H locs ls (hk2 _ eo).symm hy3 hy4 hy5 hl w) v3 hv3 v4 hv4 v5 hv5 M hf hl w
set_option maxRecDepth 100000 in
set_option maxHeartbeats 4000000 in
theorem b_X11_softest_j77 (X : CX p s m args c cX11_softest 7 RX11 D aC ad sg A H0) {o : Int × Mem} (HR : ∀ (r : Int) (M1 : Mem) (H : Heap) (locs : List Loc) (pc : Nat) (ls : Array Slot), o = (r, M1) → inR r → WS D aC ad A H0 M1 H locs → decode cX11_softest pc = .ok (.ireturn, 1) → W p l e rm_X11_softest s m args below meth c H locs 0 0 Q (F0 m pc ls [.int (i2 r)])) (v1 : Int) (hv1 : inR v1) (v3 : Int) (hv3 : inR v3) (M : Mem) (hf : f_X11_softest_j77 v1 v3 M = some o) {H : Heap} {locs : List Loc} {ls : Array Slot} (hl : lv_has ls 7 [(0, .ref (ad 80)), (1, .int (i2 v1)), (3, .int (i2 v3))]) (w : WS D aC ad A H0 M H locs) : W p l e rm_X11_softest s m args below meth c H locs 0 0 Q (F0 m 77 ls []) := by
  have hx := X.1.1
  have hb := X.1.2.1
  unfold f_X11_softest_j77 at hf
  refine lv_aload_n hx hb dX11_softest_77 rfl (lv_at hl 0 rfl) ?_
  refine g_getr X w fg_X11_100 KD_80 FR_80_41 dX11_softest_78 ?_
  refine lv_iload_n hx hb dX11_softest_81 rfl (lv_at hl 1 rfl) ?_
  refine lv_iload_n hx hb dX11_softest_82 rfl (lv_at hl 2 rfl) ?_
  obtain ⟨hg, hf⟩ := gd_some hf
  obtain ⟨M_2, eM_2, hf⟩ := lt_some hf
  refine g_iast X w KD_108 hv1 hg hv3 dX11_softest_83 (fun H locs w_M_2 => ?_)
  rw [← eM_2] at w_M_2
  refine lv_iload_n hx hb dX11_softest_84 rfl (lv_at hl 2 rfl) ?_
  exact HR v3 M_2 _ _ _ _ (Option.some.inj hf).symm hv3 w_M_2 dX11_softest_85
set_option maxRecDepth 100000 in
set_option maxHeartbeats 4000000 in
theorem b_X11_softest_0 (X : CX p s m args c cX11_softest 7 RX11 D aC ad sg A H0) {o : Int × Mem} (HR : ∀ (r : Int) (M1 : Mem) (H : Heap) (locs : List Loc) (pc : Nat) (ls : Array Slot), o = (r, M1) → inR r → WS D aC ad A H0 M1 H locs → decode cX11_softest pc = .ok (.ireturn, 1) → W p l e rm_X11_softest s m args below meth c H locs 0 0 Q (F0 m pc ls [.int (i2 r)])) (p1 : Int) (hp1 : inR p1) (p2 : Int) (hp2 : inR p2) (M : Mem) (hf : f_X11_softest p1 p2 M = some o) {H : Heap} {locs : List Loc} {ls : Array Slot} (hl : lv_has ls 7 [(0, .ref (ad 80)), (1, .int (i2 p1)), (2, .int (i2 p2))]) (w : WS D aC ad A H0 M H locs) : W p l e rm_X11_softest s m args below meth c H locs 0 0 Q (F0 m 0 ls []) := by
  have hx := X.1.1
  have hb := X.1.2.1
  unfold f_X11_softest at hf
  refine g_iconst X dX11_softest_0 ?_
  refine g_istn (v := (-1)) (lv' := [(3, .int (i2 (-1))), (0, .ref (ad 80)), (1, .int (i2 p1)), (2, .int (i2 p2))]) X rfl dX11_softest_1 rfl hl (by decide) rfl (fun ls hl => ?_)
  refine g_ldcw X kc_X11_336 dX11_softest_2 ?_
  refine g_ist (v := 1000000000) (lv' := [(4, .int (i2 1000000000)), (3, .int (i2 (-1))), (0, .ref (ad 80)), (1, .int (i2 p1)), (2, .int (i2 p2))]) X rfl dX11_softest_5 hl (by decide) rfl (fun ls hl => ?_)
  refine g_iconst X dX11_softest_7 ?_
  refine g_ist (v := 0) (lv' := [(5, .int (i2 0)), (4, .int (i2 1000000000)), (3, .int (i2 (-1))), (0, .ref (ad 80)), (1, .int (i2 p1)), (2, .int (i2 p2))]) X rfl dX11_softest_8 hl (by decide) rfl (fun ls hl => ?_)
  obtain ⟨q, hq, h1⟩ := obn_some hf
  exact l_X11_softest_10 X p1 hp1 p2 hp2 (out := q) (fun y3 y4 y5 M1 H locs ls eq hy3 hy4 hy5 hl w => b_X11_softest_j77 X  HR p1 hp1 y3 hy3 M1 (by subst eq; exact h1) (lv_sub hl [0, 1, 3] rfl) w)  FU (-1) 1000000000 0 M hq (inL rfl) (inL rfl) (inL rfl) (lv_sub hl [3, 4, 5, 2, 1, 0] rfl) w
set_option maxRecDepth 100000 in
set_option maxHeartbeats 4000000 in
theorem k_X11_softest {l : Launch} {D : va_G} {aC : Nat → ClassId} {ad : Nat → Nat} {sg : SG} (hi : Inj ad) (p1 : Int) (hp1 : inR p1) (p2 : Int) (hp2 : inR p2) {M : Mem} (hM : inM M) {r : Int} {M' : Mem} (hf : f_X11_softest p1 p2 M = some (r, M')) : MetI l D aC ad sg yX11_softest cX11_softest 7 (some .int) rm_X11_softest 0 0 [.ref (ad 80), .int (i2 p1), .int (i2 p2)] M r M' := by
  refine MetI.ofI (by decide +kernel) (nle rfl) hi hM (fun p e s m args below meth c Q H0 ls X hl w hret => ?_)
  exact b_X11_softest_0 X  (fun r1 M1 H locs pc ls eo hP w dg => by cases eo; exact hret H locs pc ls hP w dg) p1 hp1 p2 hp2 M hf hl w
set_option maxRecDepth 100000 in
set_option maxHeartbeats 4000000 in
theorem b_X11_isBetter_0 (X : CX p s m args c cX11_isBetter 4 RX11 D aC ad sg A H0) {M : Mem} {o : Int} (HR : ∀ (r : Int) (H : Heap) (locs : List Loc) (pc : Nat) (ls : Array Slot), o = r → isZ r → WS D aC ad A H0 M H locs → decode cX11_isBetter pc = .ok (.ireturn, 1) → W p l e rm_X11_isBetter s m args below meth c H locs 0 0 Q (F0 m pc ls [.int (i2 r)])) (p1 : Int) (hp1 : inR p1) (p2 : Int) (hp2 : inR p2) (hf : f_X11_isBetter p1 p2 M = some o) {H : Heap} {locs : List Loc} {ls : Array Slot} (hl : lv_has ls 4 [(0, .ref (ad 80)), (1, .int (i2 p1)), (2, .int (i2 p2))]) (w : WS D aC ad A H0 M H locs) : W p l e rm_X11_isBetter s m args below meth c H locs 0 0 Q (F0 m 0 ls []) := by
  have hx := X.1.1
  have hb := X.1.2.1
  unfold f_X11_isBetter at hf
  refine lv_aload_n hx hb dX11_isBetter_0 rfl (lv_at hl 0 rfl) ?_
  obtain ⟨r, hc, hf⟩ := obn_some hf
  refine g_cvi (As := []) (rest := []) X w (k_X11_isSound X.2.2.1  w.2.2 hc) lk_X11_352 cl_11 KD_80 ⟨rfl, rfl⟩ ⟨nle rfl, nle rfl⟩ ⟨nle rfl, nle rfl⟩ hl.1 rfl (nle rfl) dX11_isBetter_1 (fun hr H locs w => ?_)
  refine g_if_ne (tgt := 9) X hr dX11_isBetter_4 (by decide) (fun cd => ?_) (fun cd => ?_)
  · replace hf := ite_f cd hf
    refine lv_aload_n hx hb dX11_isBetter_9 rfl (lv_at hl 0 rfl) ?_
    obtain ⟨r_2, hc, hf⟩ := obn_some hf
    refine g_cvi (As := []) (rest := []) X w (k_X11_lack X.2.2.1  w.2.2 hc) lk_X11_355 cl_11 KD_80 ⟨rfl, rfl⟩ ⟨nle rfl, nle rfl⟩ ⟨nle rfl, nle rfl⟩ hl.1 rfl (nle rfl) dX11_isBetter_10 (fun hr_2 H locs w => ?_)
    refine g_istn (v := r_2) (lv' := [(3, .int (i2 r_2)), (0, .ref (ad 80)), (1, .int (i2 p1)), (2, .int (i2 p2))]) X rfl dX11_isBetter_13 rfl hl (by decide) rfl (fun ls hl => ?_)
    refine lv_iload_n hx hb dX11_isBetter_14 rfl (lv_at hl 0 rfl) ?_
    refine lv_iload_n hx hb dX11_isBetter_15 rfl (lv_at hl 2 rfl) ?_
    refine g_icmp_lt (tgt := 32) X hr_2 hp1 dX11_isBetter_16 (by decide) (fun cd_2 => ?_) (fun cd_2 => ?_)
    · replace hf := ite_t cd_2 hf
      refine g_iconst X dX11_isBetter_32 ?_
      refine lv_goto (tgt := 37) hx hb dX11_isBetter_33 (by decide) ?_
      exact HR 1 _ _ _ _ (Option.some.inj hf).symm (Or.inr rfl) w dX11_isBetter_37
    · replace hf := ite_f cd_2 hf
      refine lv_iload_n hx hb dX11_isBetter_19 rfl (lv_at hl 0 rfl) ?_
      refine lv_iload_n hx hb dX11_isBetter_20 rfl (lv_at hl 2 rfl) ?_
      refine g_icmp_ne (tgt := 36) X hr_2 hp1 dX11_isBetter_21 (by decide) (fun cd_3 => ?_) (fun cd_3 => ?_)
      · replace hf := ite_f cd_3 hf
        refine g_iconst X dX11_isBetter_36 ?_
        exact HR 0 _ _ _ _ (Option.some.inj hf).symm (Or.inl rfl) w dX11_isBetter_37
      · replace hf := ite_t cd_3 hf
        refine lv_aload_n hx hb dX11_isBetter_24 rfl (lv_at hl 1 rfl) ?_
        obtain ⟨r_3, hc, hf⟩ := obn_some hf
        refine g_cvi (As := []) (rest := []) X w (k_X11_allHarm X.2.2.1  w.2.2 hc) lk_X11_358 cl_11 KD_80 ⟨rfl, rfl⟩ ⟨nle rfl, nle rfl⟩ ⟨nle rfl, nle rfl⟩ hl.1 rfl (nle rfl) dX11_isBetter_25 (fun hr_3 H locs w => ?_)
        refine lv_iload_n hx hb dX11_isBetter_28 rfl (lv_at hl 3 rfl) ?_
        refine g_icmp_ge (tgt := 36) X hr_3 hp2 dX11_isBetter_29 (by decide) (fun cd_4 => ?_) (fun cd_4 => ?_)
        · replace hf := ite_t cd_4 hf
          refine g_iconst X dX11_isBetter_36 ?_
          exact HR 0 _ _ _ _ (Option.some.inj hf).symm (Or.inl rfl) w dX11_isBetter_37
        · replace hf := ite_f cd_4 hf
          refine g_iconst X dX11_isBetter_32 ?_
          refine lv_goto (tgt := 37) hx hb dX11_isBetter_33 (by decide) ?_
          exact HR 1 _ _ _ _ (Option.some.inj hf).symm (Or.inr rfl) w dX11_isBetter_37
  · replace hf := ite_t cd hf
    refine g_iconst X dX11_isBetter_7 ?_
    exact HR 0 _ _ _ _ (Option.some.inj hf).symm (Or.inl rfl) w dX11_isBetter_8
set_option maxRecDepth 100000 in
set_option maxHeartbeats 4000000 in
theorem k_X11_isBetter {l : Launch} {D : va_G} {aC : Nat → ClassId} {ad : Nat → Nat} {sg : SG} (hi : Inj ad) (p1 : Int) (hp1 : inR p1) (p2 : Int) (hp2 : inR p2) {M : Mem} (hM : inM M) {r : Int} (hf : f_X11_isBetter p1 p2 M = some r) : MetI l D aC ad sg yX11_isBetter cX11_isBetter 4 (some .boolean) rm_X11_isBetter 0 0 [.ref (ad 80), .int (i2 p1), .int (i2 p2)] M r M := by
  refine MetI.ofZ (by decide +kernel) (nle rfl) hi hM (fun p e s m args below meth c Q H0 ls X hl w hret => ?_)
  exact b_X11_isBetter_0 X  (fun r1 H locs pc ls eo hP w dg => by cases eo; exact hret H locs pc ls hP w dg) p1 hp1 p2 hp2 hf hl w
set_option maxRecDepth 100000 in
set_option maxHeartbeats 4000000 in
theorem b_X11_swaps_0 (X : CX p s m args c cX11_swaps 4 RX11 D aC ad sg A H0) {o : Mem} (HR : ∀ (M1 : Mem) (H : Heap) (locs : List Loc) (pc : Nat) (ls : Array Slot), o = M1 → WS D aC ad A H0 M1 H locs → decode cX11_swaps pc = .ok (.return_, 1) → W p l e rm_X11_swaps s m args below meth c H locs 0 0 Q (F0 m pc ls [])) (p1 : Int) (hp1 : inR p1) (p2 : Int) (hp2 : inR p2) (M : Mem) (hf : f_X11_swaps p1 p2 M = some o) {H : Heap} {locs : List Loc} {ls : Array Slot} (hl : lv_has ls 4 [(0, .ref (ad 80)), (1, .int (i2 p1)), (2, .int (i2 p2))]) (w : WS D aC ad A H0 M H locs) : W p l e rm_X11_swaps s m args below meth c H locs 0 0 Q (F0 m 0 ls []) := by
  have hx := X.1.1
  have hb := X.1.2.1
  unfold f_X11_swaps at hf
  refine lv_aload_n hx hb dX11_swaps_0 rfl (lv_at hl 0 rfl) ?_
  refine g_getr X w fg_X11_100 KD_80 FR_80_41 dX11_swaps_1 ?_
  refine lv_iload_n hx hb dX11_swaps_4 rfl (lv_at hl 1 rfl) ?_
  obtain ⟨hg, hf⟩ := gd_some hf
  refine g_iald X w KD_108 hp1 hg dX11_swaps_5 ?_
  obtain ⟨v3, ev3, hf⟩ := lt_some hf
  have hv3 : inR v3 := inR_of ev3 (w.2.2 _ _)
  refine g_istn (v := v3) (lv' := [(3, .int (i2 v3)), (0, .ref (ad 80)), (1, .int (i2 p1)), (2, .int (i2 p2))]) X ev3 dX11_swaps_6 rfl hl (by decide) rfl (fun ls hl => ?_)
  refine lv_aload_n hx hb dX11_swaps_7 rfl (lv_at hl 1 rfl) ?_
  refine g_getr X w fg_X11_100 KD_80 FR_80_41 dX11_swaps_8 ?_
  refine lv_iload_n hx hb dX11_swaps_11 rfl (lv_at hl 2 rfl) ?_
  refine lv_aload_n hx hb dX11_swaps_12 rfl (lv_at hl 1 rfl) ?_
  refine g_getr X w fg_X11_100 KD_80 FR_80_41 dX11_swaps_13 ?_
  refine lv_iload_n hx hb dX11_swaps_16 rfl (lv_at hl 3 rfl) ?_
  obtain ⟨hg_2, hf⟩ := gd_some hf
  refine g_iald X w KD_108 hp2 hg_2 dX11_swaps_17 ?_
  obtain ⟨hg_3, hf⟩ := gd_some hf
  obtain ⟨M_2, eM_2, hf⟩ := lt_some hf
  refine g_iast X w KD_108 hp1 hg_3 (w.2.2 _ _) dX11_swaps_18 (fun H locs w_M_2 => ?_)
  rw [← eM_2] at w_M_2
  refine lv_aload_n hx hb dX11_swaps_19 rfl (lv_at hl 1 rfl) ?_
  refine g_getr X w_M_2 fg_X11_100 KD_80 FR_80_41 dX11_swaps_20 ?_
  refine lv_iload_n hx hb dX11_swaps_23 rfl (lv_at hl 3 rfl) ?_
  refine lv_iload_n hx hb dX11_swaps_24 rfl (lv_at hl 0 rfl) ?_
  obtain ⟨hg_4, hf⟩ := gd_some hf
  obtain ⟨M_3, eM_3, hf⟩ := lt_some hf
  refine g_iast X w_M_2 KD_108 hp2 hg_4 hv3 dX11_swaps_25 (fun H locs w_M_3 => ?_)
  rw [← eM_3] at w_M_3
  exact HR M_3 _ _ _ _ (Option.some.inj hf).symm w_M_3 dX11_swaps_26
set_option maxRecDepth 100000 in
set_option maxHeartbeats 4000000 in
theorem k_X11_swaps {l : Launch} {D : va_G} {aC : Nat → ClassId} {ad : Nat → Nat} {sg : SG} (hi : Inj ad) (p1 : Int) (hp1 : inR p1) (p2 : Int) (hp2 : inR p2) {M : Mem} (hM : inM M) {M' : Mem} (hf : f_X11_swaps p1 p2 M = some M') : MetV l D aC ad sg yX11_swaps cX11_swaps 4 rm_X11_swaps 0 0 [.ref (ad 80), .int (i2 p1), .int (i2 p2)] M M' := by
  refine MetV.of (by decide +kernel) (nle rfl) hi hM (fun p e s m args below meth c Q H0 ls X hl w hret => ?_)
  exact b_X11_swaps_0 X  (fun M1 H locs pc ls eo w dg => by cases eo; exact hret H locs pc ls w dg) p1 hp1 p2 hp2 M hf hl w
set_option maxRecDepth 100000 in
set_option maxHeartbeats 4000000 in
theorem b_X11_betters_s31 (X : CX p s m args c cX11_betters 6 RX11 D aC ad sg A H0) (v1 : Int) (hv1 : inR v1) (v2 : Int) (hv2 : inR v2) (v3 : Int) (hv3 : inR v3) (v4 : Int) (hv4 : inR v4) {o : (Int × Mem) ⊕ ((Int × Mem) ⊕ (Int × Mem))} (HC : ∀ (y5 : Int) (M1 : Mem) (H : Heap) (locs : List Loc) (ls : Array Slot), o = .inl (y5, M1) → inR y5 → lv_has ls 6 [(0, .ref (ad 80)), (1, .int (i2 v1)), (2, .int (i2 v2)), (3, .int (i2 v3)), (4, .int (i2 v4)), (5, .int (i2 y5))] → WS D aC ad A H0 M1 H locs → W p l e rm_X11_betters s m args below meth c H locs 0 0 Q (F0 m 31 ls [])) (HE : ∀ (y5 : Int) (M1 : Mem) (H : Heap) (locs : List Loc) (ls : Array Slot), o = .inr (.inl (y5, M1)) → inR y5 → lv_has ls 6 [(0, .ref (ad 80)), (1, .int (i2 v1)), (2, .int (i2 v2)), (3, .int (i2 v3)), (4, .int (i2 v4)), (5, .int (i2 y5))] → WS D aC ad A H0 M1 H locs → W p l e rm_X11_betters s m args below meth c H locs 0 0 Q (F0 m 75 ls [])) (HR : ∀ (r : Int) (M1 : Mem) (H : Heap) (locs : List Loc) (pc : Nat) (ls : Array Slot), o = .inr (.inr (r, M1)) → isZ r → WS D aC ad A H0 M1 H locs → decode cX11_betters pc = .ok (.ireturn, 1) → W p l e rm_X11_betters s m args below meth c H locs 0 0 Q (F0 m pc ls [.int (i2 r)])) (v5 : Int) (hv5 : inR v5) (M : Mem) (hf : f_X11_betters_s31 v1 v2 v3 v4 v5 M = some o) {H : Heap} {locs : List Loc} {ls : Array Slot} (hl : lv_has ls 6 [(0, .ref (ad 80)), (1, .int (i2 v1)), (2, .int (i2 v2)), (3, .int (i2 v3)), (4, .int (i2 v4)), (5, .int (i2 v5))]) (w : WS D aC ad A H0 M H locs) : W p l e rm_X11_betters s m args below meth c H locs 0 0 Q (F0 m 31 ls []) := by
  have hx := X.1.1
  have hb := X.1.2.1
  unfold f_X11_betters_s31 at hf
  refine lv_iload hx hb dX11_betters_31 (lv_at hl 5 rfl) ?_
  refine lv_aload_n hx hb dX11_betters_33 rfl (lv_at hl 0 rfl) ?_
  refine g_geti X w fg_X11_41 KD_80 FR_80_12 dX11_betters_34 ?_
  refine g_icmp_ge (tgt := 75) X hv5 (w.2.2 _ _) dX11_betters_37 (by decide) (fun cd => ?_) (fun cd => ?_)
  · replace hf := ite_t cd hf
    exact HE v5 M _ _ _ (Option.some.inj hf).symm hv5 hl w
  · replace hf := ite_f cd hf
    refine lv_iload hx hb dX11_betters_40 (lv_at hl 5 rfl) ?_
    refine lv_iload hx hb dX11_betters_42 (lv_at hl 4 rfl) ?_
    refine g_icmp_ne (tgt := 50) X hv5 hv4 dX11_betters_44 (by decide) (fun cd_2 => ?_) (fun cd_2 => ?_)
    · replace hf := ite_f cd_2 hf
      refine lv_aload_n hx hb dX11_betters_50 rfl (lv_at hl 0 rfl) ?_
      refine g_getr X w fg_X11_100 KD_80 FR_80_41 dX11_betters_51 ?_
      refine lv_iload_n hx hb dX11_betters_54 rfl (lv_at hl 3 rfl) ?_
      refine lv_iload hx hb dX11_betters_55 (lv_at hl 5 rfl) ?_
      obtain ⟨hg, hf⟩ := gd_some hf
      obtain ⟨M_2, eM_2, hf⟩ := lt_some hf
      refine g_iast X w KD_108 hv3 hg hv5 dX11_betters_57 (fun H locs w_M_2 => ?_)
      rw [← eM_2] at w_M_2
      refine lv_aload_n hx hb dX11_betters_58 rfl (lv_at hl 0 rfl) ?_
      refine lv_iload_n hx hb dX11_betters_59 rfl (lv_at hl 1 rfl) ?_
      refine lv_iload_n hx hb dX11_betters_60 rfl (lv_at hl 2 rfl) ?_
      obtain ⟨r, hc, hf⟩ := obn_some hf
      refine g_cvi (As := [.int (i2 v1), .int (i2 v2)]) (rest := []) X w_M_2 (k_X11_isBetter X.2.2.1 v1 hv1 v2 hv2 w_M_2.2.2 hc) lk_X11_374 cl_11 KD_80 ⟨rfl, rfl⟩ ⟨nle rfl, nle rfl⟩ ⟨nle rfl, nle rfl⟩ hl.1 rfl (nle rfl) dX11_betters_61 (fun hr H locs w_M_2 => ?_)
      refine g_if_eq (tgt := 69) X hr dX11_betters_64 (by decide) (fun cd_3 => ?_) (fun cd_3 => ?_)
      · replace hf := ite_t cd_3 hf
        obtain ⟨v5_2, ev5_2, hf⟩ := lt_some hf
        have hv5_2 : inR v5_2 := inR_of ev5_2 (inR_wrap _)
        refine lv_iinc (v := i2 v5_2) (lv' := [(5, .int (i2 v5_2)), (0, .ref (ad 80)), (1, .int (i2 v1)), (2, .int (i2 v2)), (3, .int (i2 v3)), (4, .int (i2 v4))]) hx hb dX11_betters_69 hl (k := 5) rfl (by rw [ev5_2]; exact i2_add _ _) (by decide) rfl (fun ls hl => ?_)
        refine lv_goto (tgt := 31) hx hb dX11_betters_72 (by decide) ?_
        exact HC v5_2 M_2 _ _ _ (Option.some.inj hf).symm hv5_2 (lv_sub hl [1, 2, 3, 4, 5, 0] rfl) w_M_2
      · replace hf := ite_f cd_3 hf
        refine g_iconst X dX11_betters_67 ?_
        exact HR 1 M_2 _ _ _ _ (Option.some.inj hf).symm (Or.inr rfl) w_M_2 dX11_betters_68
    · replace hf := ite_t cd_2 hf
      refine lv_goto (tgt := 69) hx hb dX11_betters_47 (by decide) ?_
      obtain ⟨v5_3, ev5_3, hf⟩ := lt_some hf
      have hv5_3 : inR v5_3 := inR_of ev5_3 (inR_wrap _)
      refine lv_iinc (v := i2 v5_3) (lv' := [(5, .int (i2 v5_3)), (0, .ref (ad 80)), (1, .int (i2 v1)), (2, .int (i2 v2)), (3, .int (i2 v3)), (4, .int (i2 v4))]) hx hb dX11_betters_69 hl (k := 5) rfl (by rw [ev5_3]; exact i2_add _ _) (by decide) rfl (fun ls hl => ?_)
      refine lv_goto (tgt := 31) hx hb dX11_betters_72 (by decide) ?_
      exact HC v5_3 M _ _ _ (Option.some.inj hf).symm hv5_3 (lv_sub hl [1, 2, 3, 4, 5, 0] rfl) w
set_option maxRecDepth 100000 in
set_option maxHeartbeats 4000000 in
theorem l_X11_betters_31 (X : CX p s m args c cX11_betters 6 RX11 D aC ad sg A H0) (v1 : Int) (hv1 : inR v1) (v2 : Int) (hv2 : inR v2) (v3 : Int) (hv3 : inR v3) (v4 : Int) (hv4 : inR v4) {out : (Int × Mem) ⊕ (Int × Mem)} (HE : ∀ (y5 : Int) (M1 : Mem) (H : Heap) (locs : List Loc) (ls : Array Slot), out = .inl (y5, M1) → inR y5 → lv_has ls 6 [(0, .ref (ad 80)), (1, .int (i2 v1)), (2, .int (i2 v2)), (3, .int (i2 v3)), (4, .int (i2 v4)), (5, .int (i2 y5))] → WS D aC ad A H0 M1 H locs → W p l e rm_X11_betters s m args below meth c H locs 0 0 Q (F0 m 75 ls [])) (HR : ∀ (r : Int) (M1 : Mem) (H : Heap) (locs : List Loc) (pc : Nat) (ls : Array Slot), out = .inr (r, M1) → isZ r → WS D aC ad A H0 M1 H locs → decode cX11_betters pc = .ok (.ireturn, 1) → W p l e rm_X11_betters s m args below meth c H locs 0 0 Q (F0 m pc ls [.int (i2 r)])) : ∀ (n : Nat) (v5 : Int) (M : Mem), whl (fun s => f_X11_betters_s31 v1 v2 v3 v4 s.1 s.2) n (v5, M) = some out → inR v5 → ∀ {H : Heap} {locs : List Loc} {ls : Array Slot}, lv_has ls 6 [(0, .ref (ad 80)), (1, .int (i2 v1)), (2, .int (i2 v2)), (3, .int (i2 v3)), (4, .int (i2 v4)), (5, .int (i2 v5))] → WS D aC ad A H0 M H locs → W p l e rm_X11_betters s m args below meth c H locs 0 0 Q (F0 m 31 ls []) := by
  intro n
  induction n with
  | zero => intro v5 M hf; exact (whl_zero hf).elim
  | succ n ih =>
    intro v5 M hf hv5 H locs ls hl w
    obtain ⟨o, hf, hk1, hk2⟩ := whl_step hf
    exact b_X11_betters_s31 X v1 hv1 v2 hv2 v3 hv3 v4 hv4 (fun y5 M1 H locs ls eo hy5 hl w => ih y5 M1 (hk1 _ eo) hy5 hl w) (fun y5 M1 H locs ls eo hy5 hl w => HE y5 M1 H locs ls (hk2 _ eo).symm hy5 hl w) (fun r M1 H locs pc ls eo hP w dg => HR r M1 H locs pc ls (hk2 _ eo).symm hP w dg) v5 hv5 M hf hl w
set_option maxRecDepth 100000 in
set_option maxHeartbeats 4000000 in
theorem b_X11_betters_j75k12 (X : CX p s m args c cX11_betters 6 RX11 D aC ad sg A H0) (v1 : Int) (hv1 : inR v1) (v2 : Int) (hv2 : inR v2) {o : (Int × Mem) ⊕ ((Int × Mem) ⊕ (Int × Mem))} (HC : ∀ (y3 : Int) (M1 : Mem) (H : Heap) (locs : List Loc) (ls : Array Slot), o = .inl (y3, M1) → inR y3 → lv_has ls 6 [(0, .ref (ad 80)), (1, .int (i2 v1)), (2, .int (i2 v2)), (3, .int (i2 y3))] → WS D aC ad A H0 M1 H locs → W p l e rm_X11_betters s m args below meth c H locs 0 0 Q (F0 m 12 ls [])) (HE : ∀ (y3 : Int) (M1 : Mem) (H : Heap) (locs : List Loc) (ls : Array Slot), o = .inr (.inl (y3, M1)) → inR y3 → lv_has ls 6 [(0, .ref (ad 80)), (1, .int (i2 v1)), (2, .int (i2 v2)), (3, .int (i2 y3))] → WS D aC ad A H0 M1 H locs → W p l e rm_X11_betters s m args below meth c H locs 0 0 Q (F0 m 89 ls [])) (HR : ∀ (r : Int) (M1 : Mem) (H : Heap) (locs : List Loc) (pc : Nat) (ls : Array Slot), o = .inr (.inr (r, M1)) → isZ r → WS D aC ad A H0 M1 H locs → decode cX11_betters pc = .ok (.ireturn, 1) → W p l e rm_X11_betters s m args below meth c H locs 0 0 Q (F0 m pc ls [.int (i2 r)])) (v3 : Int) (hv3 : inR v3) (v4 : Int) (hv4 : inR v4) (M : Mem) (hf : f_X11_betters_j75k12 v1 v2 v3 v4 M = some o) {H : Heap} {locs : List Loc} {ls : Array Slot} (hl : lv_has ls 6 [(0, .ref (ad 80)), (1, .int (i2 v1)), (2, .int (i2 v2)), (3, .int (i2 v3)), (4, .int (i2 v4))]) (w : WS D aC ad A H0 M H locs) : W p l e rm_X11_betters s m args below meth c H locs 0 0 Q (F0 m 75 ls []) := by
  have hx := X.1.1
  have hb := X.1.2.1
  unfold f_X11_betters_j75k12 at hf
  refine lv_aload_n hx hb dX11_betters_75 rfl (lv_at hl 0 rfl) ?_
  refine g_getr X w fg_X11_100 KD_80 FR_80_41 dX11_betters_76 ?_
  refine lv_iload_n hx hb dX11_betters_79 rfl (lv_at hl 3 rfl) ?_
  refine lv_iload hx hb dX11_betters_80 (lv_at hl 4 rfl) ?_
  obtain ⟨hg, hf⟩ := gd_some hf
  obtain ⟨M_2, eM_2, hf⟩ := lt_some hf
  refine g_iast X w KD_108 hv3 hg hv4 dX11_betters_82 (fun H locs w_M_2 => ?_)
  rw [← eM_2] at w_M_2
  obtain ⟨v3_2, ev3_2, hf⟩ := lt_some hf
  have hv3_2 : inR v3_2 := inR_of ev3_2 (inR_wrap _)
  refine lv_iinc (v := i2 v3_2) (lv' := [(3, .int (i2 v3_2)), (0, .ref (ad 80)), (1, .int (i2 v1)), (2, .int (i2 v2)), (4, .int (i2 v4))]) hx hb dX11_betters_83 hl (k := 3) rfl (by rw [ev3_2]; exact i2_add _ _) (by decide) rfl (fun ls hl => ?_)
  refine lv_goto (tgt := 12) hx hb dX11_betters_86 (by decide) ?_
  exact HC v3_2 M_2 _ _ _ (Option.some.inj hf).symm hv3_2 (lv_sub hl [1, 2, 3, 0] rfl) w_M_2
set_option maxRecDepth 100000 in
set_option maxHeartbeats 4000000 in
theorem b_X11_betters_s12 (X : CX p s m args c cX11_betters 6 RX11 D aC ad sg A H0) (v1 : Int) (hv1 : inR v1) (v2 : Int) (hv2 : inR v2) {o : (Int × Mem) ⊕ ((Int × Mem) ⊕ (Int × Mem))} (HC : ∀ (y3 : Int) (M1 : Mem) (H : Heap) (locs : List Loc) (ls : Array Slot), o = .inl (y3, M1) → inR y3 → lv_has ls 6 [(0, .ref (ad 80)), (1, .int (i2 v1)), (2, .int (i2 v2)), (3, .int (i2 y3))] → WS D aC ad A H0 M1 H locs → W p l e rm_X11_betters s m args below meth c H locs 0 0 Q (F0 m 12 ls [])) (HE : ∀ (y3 : Int) (M1 : Mem) (H : Heap) (locs : List Loc) (ls : Array Slot), o = .inr (.inl (y3, M1)) → inR y3 → lv_has ls 6 [(0, .ref (ad 80)), (1, .int (i2 v1)), (2, .int (i2 v2)), (3, .int (i2 y3))] → WS D aC ad A H0 M1 H locs → W p l e rm_X11_betters s m args below meth c H locs 0 0 Q (F0 m 89 ls [])) (HR : ∀ (r : Int) (M1 : Mem) (H : Heap) (locs : List Loc) (pc : Nat) (ls : Array Slot), o = .inr (.inr (r, M1)) → isZ r → WS D aC ad A H0 M1 H locs → decode cX11_betters pc = .ok (.ireturn, 1) → W p l e rm_X11_betters s m args below meth c H locs 0 0 Q (F0 m pc ls [.int (i2 r)])) (v3 : Int) (hv3 : inR v3) (M : Mem) (hf : f_X11_betters_s12 v1 v2 v3 M = some o) {H : Heap} {locs : List Loc} {ls : Array Slot} (hl : lv_has ls 6 [(0, .ref (ad 80)), (1, .int (i2 v1)), (2, .int (i2 v2)), (3, .int (i2 v3))]) (w : WS D aC ad A H0 M H locs) : W p l e rm_X11_betters s m args below meth c H locs 0 0 Q (F0 m 12 ls []) := by
  have hx := X.1.1
  have hb := X.1.2.1
  unfold f_X11_betters_s12 at hf
  refine lv_iload_n hx hb dX11_betters_12 rfl (lv_at hl 3 rfl) ?_
  refine lv_aload_n hx hb dX11_betters_13 rfl (lv_at hl 0 rfl) ?_
  refine g_geti X w fg_X11_142 KD_80 FR_80_1 dX11_betters_14 ?_
  refine g_icmp_ge (tgt := 89) X hv3 (w.2.2 _ _) dX11_betters_17 (by decide) (fun cd => ?_) (fun cd => ?_)
  · replace hf := ite_t cd hf
    exact HE v3 M _ _ _ (Option.some.inj hf).symm hv3 hl w
  · replace hf := ite_f cd hf
    refine lv_aload_n hx hb dX11_betters_20 rfl (lv_at hl 0 rfl) ?_
    refine g_getr X w fg_X11_100 KD_80 FR_80_41 dX11_betters_21 ?_
    refine lv_iload_n hx hb dX11_betters_24 rfl (lv_at hl 3 rfl) ?_
    obtain ⟨hg, hf⟩ := gd_some hf
    refine g_iald X w KD_108 hv3 hg dX11_betters_25 ?_
    obtain ⟨v4, ev4, hf⟩ := lt_some hf
    have hv4 : inR v4 := inR_of ev4 (w.2.2 _ _)
    refine g_ist (v := v4) (lv' := [(4, .int (i2 v4)), (0, .ref (ad 80)), (1, .int (i2 v1)), (2, .int (i2 v2)), (3, .int (i2 v3))]) X ev4 dX11_betters_26 hl (by decide) rfl (fun ls hl => ?_)
    refine g_iconst X dX11_betters_28 ?_
    refine g_ist (v := 0) (lv' := [(5, .int (i2 0)), (4, .int (i2 v4)), (0, .ref (ad 80)), (1, .int (i2 v1)), (2, .int (i2 v2)), (3, .int (i2 v3))]) X rfl dX11_betters_29 hl (by decide) rfl (fun ls hl => ?_)
    obtain ⟨q, hq, h1, h2⟩ := lpr_some hf
    exact l_X11_betters_31 X v1 hv1 v2 hv2 v3 hv3 v4 hv4 (out := q) (fun y5 M1 H locs ls eq hy5 hl w => b_X11_betters_j75k12 X v1 hv1 v2 hv2 HC HE HR v3 hv3 v4 hv4 M1 (h1 _ eq) (lv_sub hl [0, 1, 2, 3, 4] rfl) w) (fun r M1 H locs pc ls eq hP w dg => HR r M1 H locs pc ls (Option.some.inj (h2 _ eq)).symm hP w dg) FU 0 M hq (inL rfl) (lv_sub hl [2, 3, 4, 5, 1, 0] rfl) w
set_option maxRecDepth 100000 in
set_option maxHeartbeats 4000000 in
theorem l_X11_betters_12 (X : CX p s m args c cX11_betters 6 RX11 D aC ad sg A H0) (v1 : Int) (hv1 : inR v1) (v2 : Int) (hv2 : inR v2) {out : (Int × Mem) ⊕ (Int × Mem)} (HE : ∀ (y3 : Int) (M1 : Mem) (H : Heap) (locs : List Loc) (ls : Array Slot), out = .inl (y3, M1) → inR y3 → lv_has ls 6 [(0, .ref (ad 80)), (1, .int (i2 v1)), (2, .int (i2 v2)), (3, .int (i2 y3))] → WS D aC ad A H0 M1 H locs → W p l e rm_X11_betters s m args below meth c H locs 0 0 Q (F0 m 89 ls [])) (HR : ∀ (r : Int) (M1 : Mem) (H : Heap) (locs : List Loc) (pc : Nat) (ls : Array Slot), out = .inr (r, M1) → isZ r → WS D aC ad A H0 M1 H locs → decode cX11_betters pc = .ok (.ireturn, 1) → W p l e rm_X11_betters s m args below meth c H locs 0 0 Q (F0 m pc ls [.int (i2 r)])) : ∀ (n : Nat) (v3 : Int) (M : Mem), whl (fun s => f_X11_betters_s12 v1 v2 s.1 s.2) n (v3, M) = some out → inR v3 → ∀ {H : Heap} {locs : List Loc} {ls : Array Slot}, lv_has ls 6 [(0, .ref (ad 80)), (1, .int (i2 v1)), (2, .int (i2 v2)), (3, .int (i2 v3))] → WS D aC ad A H0 M H locs → W p l e rm_X11_betters s m args below meth c H locs 0 0 Q (F0 m 12 ls []) := by
  intro n
  induction n with
  | zero => intro v3 M hf; exact (whl_zero hf).elim
  | succ n ih =>
    intro v3 M hf hv3 H locs ls hl w
    obtain ⟨o, hf, hk1, hk2⟩ := whl_step hf
    exact b_X11_betters_s12 X v1 hv1 v2 hv2 (fun y3 M1 H locs ls eo hy3 hl w => ih y3 M1 (hk1 _ eo) hy3 hl w) (fun y3 M1 H locs ls eo hy3 hl w => HE y3 M1 H locs ls (hk2 _ eo).symm hy3 hl w) (fun r M1 H locs pc ls eo hP w dg => HR r M1 H locs pc ls (hk2 _ eo).symm hP w dg) v3 hv3 M hf hl w
set_option maxRecDepth 100000 in
set_option maxHeartbeats 4000000 in
theorem b_X11_betters_s104 (X : CX p s m args c cX11_betters 6 RX11 D aC ad sg A H0) (v1 : Int) (hv1 : inR v1) (v2 : Int) (hv2 : inR v2) (v3 : Int) (hv3 : inR v3) {o : (Int × Mem) ⊕ ((Int × Mem) ⊕ (Int × Mem))} (HC : ∀ (y4 : Int) (M1 : Mem) (H : Heap) (locs : List Loc) (ls : Array Slot), o = .inl (y4, M1) → inR y4 → lv_has ls 6 [(0, .ref (ad 80)), (1, .int (i2 v1)), (2, .int (i2 v2)), (3, .int (i2 v3)), (4, .int (i2 y4))] → WS D aC ad A H0 M1 H locs → W p l e rm_X11_betters s m args below meth c H locs 0 0 Q (F0 m 104 ls [])) (HE : ∀ (y4 : Int) (M1 : Mem) (H : Heap) (locs : List Loc) (ls : Array Slot), o = .inr (.inl (y4, M1)) → inR y4 → lv_has ls 6 [(0, .ref (ad 80)), (1, .int (i2 v1)), (2, .int (i2 v2)), (3, .int (i2 v3)), (4, .int (i2 y4))] → WS D aC ad A H0 M1 H locs → W p l e rm_X11_betters s m args below meth c H locs 0 0 Q (F0 m 163 ls [])) (HR : ∀ (r : Int) (M1 : Mem) (H : Heap) (locs : List Loc) (pc : Nat) (ls : Array Slot), o = .inr (.inr (r, M1)) → isZ r → WS D aC ad A H0 M1 H locs → decode cX11_betters pc = .ok (.ireturn, 1) → W p l e rm_X11_betters s m args below meth c H locs 0 0 Q (F0 m pc ls [.int (i2 r)])) (v4 : Int) (hv4 : inR v4) (M : Mem) (hf : f_X11_betters_s104 v1 v2 v3 v4 M = some o) {H : Heap} {locs : List Loc} {ls : Array Slot} (hl : lv_has ls 6 [(0, .ref (ad 80)), (1, .int (i2 v1)), (2, .int (i2 v2)), (3, .int (i2 v3)), (4, .int (i2 v4))]) (w : WS D aC ad A H0 M H locs) : W p l e rm_X11_betters s m args below meth c H locs 0 0 Q (F0 m 104 ls []) := by
  have hx := X.1.1
  have hb := X.1.2.1
  unfold f_X11_betters_s104 at hf
  refine lv_iload hx hb dX11_betters_104 (lv_at hl 4 rfl) ?_
  refine lv_aload_n hx hb dX11_betters_106 rfl (lv_at hl 0 rfl) ?_
  refine g_geti X w fg_X11_142 KD_80 FR_80_1 dX11_betters_107 ?_
  refine g_icmp_ge (tgt := 163) X hv4 (w.2.2 _ _) dX11_betters_110 (by decide) (fun cd => ?_) (fun cd => ?_)
  · replace hf := ite_t cd hf
    exact HE v4 M _ _ _ (Option.some.inj hf).symm hv4 hl w
  · replace hf := ite_f cd hf
    refine lv_aload_n hx hb dX11_betters_113 rfl (lv_at hl 0 rfl) ?_
    refine g_getr X w fg_X11_100 KD_80 FR_80_41 dX11_betters_114 ?_
    refine lv_iload_n hx hb dX11_betters_117 rfl (lv_at hl 3 rfl) ?_
    obtain ⟨hg, hf⟩ := gd_some hf
    refine g_iald X w KD_108 hv3 hg dX11_betters_118 ?_
    refine lv_aload_n hx hb dX11_betters_119 rfl (lv_at hl 0 rfl) ?_
    refine g_getr X w fg_X11_100 KD_80 FR_80_41 dX11_betters_120 ?_
    refine lv_iload hx hb dX11_betters_123 (lv_at hl 4 rfl) ?_
    obtain ⟨hg_2, hf⟩ := gd_some hf
    refine g_iald X w KD_108 hv4 hg_2 dX11_betters_125 ?_
    refine g_icmp_ne (tgt := 132) X (w.2.2 _ _) (w.2.2 _ _) dX11_betters_126 (by decide) (fun cd_2 => ?_) (fun cd_2 => ?_)
    · replace hf := ite_f cd_2 hf
      refine lv_aload_n hx hb dX11_betters_132 rfl (lv_at hl 0 rfl) ?_
      refine lv_iload_n hx hb dX11_betters_133 rfl (lv_at hl 3 rfl) ?_
      refine lv_iload hx hb dX11_betters_134 (lv_at hl 4 rfl) ?_
      obtain ⟨M_2, hc, hf⟩ := obn_some hf
      refine g_cvv (As := [.int (i2 v3), .int (i2 v4)]) (rest := []) X w (k_X11_swaps X.2.2.1 v3 hv3 v4 hv4 w.2.2 hc) lk_X11_377 cl_11 KD_80 ⟨rfl, rfl⟩ ⟨nle rfl, nle rfl⟩ ⟨nle rfl, nle rfl⟩ hl.1 rfl (nle rfl) dX11_betters_136 (fun H locs w_M_2 => ?_)
      refine lv_aload_n hx hb dX11_betters_139 rfl (lv_at hl 0 rfl) ?_
      refine lv_iload_n hx hb dX11_betters_140 rfl (lv_at hl 1 rfl) ?_
      refine lv_iload_n hx hb dX11_betters_141 rfl (lv_at hl 2 rfl) ?_
      obtain ⟨r, hc, hf⟩ := obn_some hf
      refine g_cvi (As := [.int (i2 v1), .int (i2 v2)]) (rest := []) X w_M_2 (k_X11_isBetter X.2.2.1 v1 hv1 v2 hv2 w_M_2.2.2 hc) lk_X11_374 cl_11 KD_80 ⟨rfl, rfl⟩ ⟨nle rfl, nle rfl⟩ ⟨nle rfl, nle rfl⟩ hl.1 rfl (nle rfl) dX11_betters_142 (fun hr H locs w_M_2 => ?_)
      refine g_if_eq (tgt := 150) X hr dX11_betters_145 (by decide) (fun cd_3 => ?_) (fun cd_3 => ?_)
      · replace hf := ite_t cd_3 hf
        refine lv_aload_n hx hb dX11_betters_150 rfl (lv_at hl 0 rfl) ?_
        refine lv_iload_n hx hb dX11_betters_151 rfl (lv_at hl 3 rfl) ?_
        refine lv_iload hx hb dX11_betters_152 (lv_at hl 4 rfl) ?_
        obtain ⟨M_3, hc, hf⟩ := obn_some hf
        refine g_cvv (As := [.int (i2 v3), .int (i2 v4)]) (rest := []) X w_M_2 (k_X11_swaps X.2.2.1 v3 hv3 v4 hv4 w_M_2.2.2 hc) lk_X11_377 cl_11 KD_80 ⟨rfl, rfl⟩ ⟨nle rfl, nle rfl⟩ ⟨nle rfl, nle rfl⟩ hl.1 rfl (nle rfl) dX11_betters_154 (fun H locs w_M_3 => ?_)
        obtain ⟨v4_2, ev4_2, hf⟩ := lt_some hf
        have hv4_2 : inR v4_2 := inR_of ev4_2 (inR_wrap _)
        refine lv_iinc (v := i2 v4_2) (lv' := [(4, .int (i2 v4_2)), (0, .ref (ad 80)), (1, .int (i2 v1)), (2, .int (i2 v2)), (3, .int (i2 v3))]) hx hb dX11_betters_157 hl (k := 4) rfl (by rw [ev4_2]; exact i2_add _ _) (by decide) rfl (fun ls hl => ?_)
        refine lv_goto (tgt := 104) hx hb dX11_betters_160 (by decide) ?_
        exact HC v4_2 M_3 _ _ _ (Option.some.inj hf).symm hv4_2 (lv_sub hl [1, 2, 3, 4, 0] rfl) w_M_3
      · replace hf := ite_f cd_3 hf
        refine g_iconst X dX11_betters_148 ?_
        exact HR 1 M_2 _ _ _ _ (Option.some.inj hf).symm (Or.inr rfl) w_M_2 dX11_betters_149
    · replace hf := ite_t cd_2 hf
      refine lv_goto (tgt := 157) hx hb dX11_betters_129 (by decide) ?_
      obtain ⟨v4_3, ev4_3, hf⟩ := lt_some hf
      have hv4_3 : inR v4_3 := inR_of ev4_3 (inR_wrap _)
      refine lv_iinc (v := i2 v4_3) (lv' := [(4, .int (i2 v4_3)), (0, .ref (ad 80)), (1, .int (i2 v1)), (2, .int (i2 v2)), (3, .int (i2 v3))]) hx hb dX11_betters_157 hl (k := 4) rfl (by rw [ev4_3]; exact i2_add _ _) (by decide) rfl (fun ls hl => ?_)
      refine lv_goto (tgt := 104) hx hb dX11_betters_160 (by decide) ?_
      exact HC v4_3 M _ _ _ (Option.some.inj hf).symm hv4_3 (lv_sub hl [1, 2, 3, 4, 0] rfl) w
end
