section
variable {p : Program} {l : Launch} {e : Env} {s : State} {m : MethodId} {args : Array Value} {below : List Frame} {meth : Method} {c : Code} {Q : State → Prop} {D : va_G} {aC : Nat → ClassId} {ad : Nat → Nat} {sg : SG} {A : Nat → Prop} {H0 : Heap}
set_option maxRecDepth 100000 in
set_option maxHeartbeats 4000000 in
theorem l_X11_betters_104 (X : CX p s m args c cX11_betters 6 RX11 D aC ad sg A H0) (v1 : Int) (hv1 : inR v1) (v2 : Int) (hv2 : inR v2) (v3 : Int) (hv3 : inR v3) {out : (Int × Mem) ⊕ (Int × Mem)} (HE : ∀ (y4 : Int) (M1 : Mem) (H : Heap) (locs : List Loc) (ls : Array Slot), out = .inl (y4, M1) → inR y4 → lv_has ls 6 [(0, .ref (ad 80)), (1, .int (i2 v1)), (2, .int (i2 v2)), (3, .int (i2 v3)), (4, .int (i2 y4))] → WS D aC ad A H0 M1 H locs → W p l e rm_X11_betters s m args below meth c H locs 0 0 Q (F0 m 163 ls [])) (HR : ∀ (r : Int) (M1 : Mem) (H : Heap) (locs : List Loc) (pc : Nat) (ls : Array Slot), out = .inr (r, M1) → isZ r → WS D aC ad A H0 M1 H locs → decode cX11_betters pc = .ok (.ireturn, 1) → W p l e rm_X11_betters s m args below meth c H locs 0 0 Q (F0 m pc ls [.int (i2 r)])) : ∀ (n : Nat) (v4 : Int) (M : Mem), whl (fun s => f_X11_betters_s104 v1 v2 v3 s.1 s.2) n (v4, M) = some out → inR v4 → ∀ {H : Heap} {locs : List Loc} {ls : Array Slot}, lv_has ls 6 [(0, .ref (ad 80)), (1, .int (i2 v1)), (2, .int (i2 v2)), (3, .int (i2 v3)), (4, .int (i2 v4))] → WS D aC ad A H0 M H locs → W p l e rm_X11_betters s m args below meth c H locs 0 0 Q (F0 m 104 ls []) := by
  intro n
  induction n with
  | zero => intro v4 M hf; exact (whl_zero hf).elim
  | succ n ih =>
    intro v4 M hf hv4 H locs ls hl w
    obtain ⟨o, hf, hk1, hk2⟩ := whl_step hf
    exact b_X11_betters_s104 X v1 hv1 v2 hv2 v3 hv3 (fun y4 M1 H locs ls eo hy4 hl w => ih y4 M1 (hk1 _ eo) hy4 hl w) (fun y4 M1 H locs ls eo hy4 hl w => HE y4 M1 H locs ls (hk2 _ eo).symm hy4 hl w) (fun r M1 H locs pc ls eo hP w dg => HR r M1 H locs pc ls (hk2 _ eo).symm hP w dg) v4 hv4 M hf hl w
set_option maxRecDepth 100000 in
set_option maxHeartbeats 4000000 in
theorem b_X11_betters_j163k91 (X : CX p s m args c cX11_betters 6 RX11 D aC ad sg A H0) (v1 : Int) (hv1 : inR v1) (v2 : Int) (hv2 : inR v2) {o : (Int × Mem) ⊕ ((Int × Mem) ⊕ (Int × Mem))} (HC : ∀ (y3 : Int) (M1 : Mem) (H : Heap) (locs : List Loc) (ls : Array Slot), o = .inl (y3, M1) → inR y3 → lv_has ls 6 [(0, .ref (ad 80)), (1, .int (i2 v1)), (2, .int (i2 v2)), (3, .int (i2 y3))] → WS D aC ad A H0 M1 H locs → W p l e rm_X11_betters s m args below meth c H locs 0 0 Q (F0 m 91 ls [])) (HE : ∀ (y3 : Int) (M1 : Mem) (H : Heap) (locs : List Loc) (ls : Array Slot), o = .inr (.inl (y3, M1)) → inR y3 → lv_has ls 6 [(0, .ref (ad 80)), (1, .int (i2 v1)), (2, .int (i2 v2)), (3, .int (i2 y3))] → WS D aC ad A H0 M1 H locs → W p l e rm_X11_betters s m args below meth c H locs 0 0 Q (F0 m 169 ls [])) (HR : ∀ (r : Int) (M1 : Mem) (H : Heap) (locs : List Loc) (pc : Nat) (ls : Array Slot), o = .inr (.inr (r, M1)) → isZ r → WS D aC ad A H0 M1 H locs → decode cX11_betters pc = .ok (.ireturn, 1) → W p l e rm_X11_betters s m args below meth c H locs 0 0 Q (F0 m pc ls [.int (i2 r)])) (v3 : Int) (hv3 : inR v3) (M : Mem) (hf : f_X11_betters_j163k91 v1 v2 v3 M = some o) {H : Heap} {locs : List Loc} {ls : Array Slot} (hl : lv_has ls 6 [(0, .ref (ad 80)), (1, .int (i2 v1)), (2, .int (i2 v2)), (3, .int (i2 v3))]) (w : WS D aC ad A H0 M H locs) : W p l e rm_X11_betters s m args below meth c H locs 0 0 Q (F0 m 163 ls []) := by
  have hx := X.1.1
  have hb := X.1.2.1
  unfold f_X11_betters_j163k91 at hf
  obtain ⟨v3_2, ev3_2, hf⟩ := lt_some hf
  have hv3_2 : inR v3_2 := inR_of ev3_2 (inR_wrap _)
  refine lv_iinc (v := i2 v3_2) (lv' := [(3, .int (i2 v3_2)), (0, .ref (ad 80)), (1, .int (i2 v1)), (2, .int (i2 v2))]) hx hb dX11_betters_163 hl (k := 3) rfl (by rw [ev3_2]; exact i2_add _ _) (by decide) rfl (fun ls hl => ?_)
  refine lv_goto (tgt := 91) hx hb dX11_betters_166 (by decide) ?_
  exact HC v3_2 M _ _ _ (Option.some.inj hf).symm hv3_2 (lv_sub hl [1, 2, 3, 0] rfl) w
set_option maxRecDepth 100000 in
set_option maxHeartbeats 4000000 in
theorem b_X11_betters_s91 (X : CX p s m args c cX11_betters 6 RX11 D aC ad sg A H0) (v1 : Int) (hv1 : inR v1) (v2 : Int) (hv2 : inR v2) {o : (Int × Mem) ⊕ ((Int × Mem) ⊕ (Int × Mem))} (HC : ∀ (y3 : Int) (M1 : Mem) (H : Heap) (locs : List Loc) (ls : Array Slot), o = .inl (y3, M1) → inR y3 → lv_has ls 6 [(0, .ref (ad 80)), (1, .int (i2 v1)), (2, .int (i2 v2)), (3, .int (i2 y3))] → WS D aC ad A H0 M1 H locs → W p l e rm_X11_betters s m args below meth c H locs 0 0 Q (F0 m 91 ls [])) (HE : ∀ (y3 : Int) (M1 : Mem) (H : Heap) (locs : List Loc) (ls : Array Slot), o = .inr (.inl (y3, M1)) → inR y3 → lv_has ls 6 [(0, .ref (ad 80)), (1, .int (i2 v1)), (2, .int (i2 v2)), (3, .int (i2 y3))] → WS D aC ad A H0 M1 H locs → W p l e rm_X11_betters s m args below meth c H locs 0 0 Q (F0 m 169 ls [])) (HR : ∀ (r : Int) (M1 : Mem) (H : Heap) (locs : List Loc) (pc : Nat) (ls : Array Slot), o = .inr (.inr (r, M1)) → isZ r → WS D aC ad A H0 M1 H locs → decode cX11_betters pc = .ok (.ireturn, 1) → W p l e rm_X11_betters s m args below meth c H locs 0 0 Q (F0 m pc ls [.int (i2 r)])) (v3 : Int) (hv3 : inR v3) (M : Mem) (hf : f_X11_betters_s91 v1 v2 v3 M = some o) {H : Heap} {locs : List Loc} {ls : Array Slot} (hl : lv_has ls 6 [(0, .ref (ad 80)), (1, .int (i2 v1)), (2, .int (i2 v2)), (3, .int (i2 v3))]) (w : WS D aC ad A H0 M H locs) : W p l e rm_X11_betters s m args below meth c H locs 0 0 Q (F0 m 91 ls []) := by
  have hx := X.1.1
  have hb := X.1.2.1
  unfold f_X11_betters_s91 at hf
  refine lv_iload_n hx hb dX11_betters_91 rfl (lv_at hl 3 rfl) ?_
  refine lv_aload_n hx hb dX11_betters_92 rfl (lv_at hl 0 rfl) ?_
  refine g_geti X w fg_X11_142 KD_80 FR_80_1 dX11_betters_93 ?_
  refine g_icmp_ge (tgt := 169) X hv3 (w.2.2 _ _) dX11_betters_96 (by decide) (fun cd => ?_) (fun cd => ?_)
  · replace hf := ite_t cd hf
    exact HE v3 M _ _ _ (Option.some.inj hf).symm hv3 hl w
  · replace hf := ite_f cd hf
    refine lv_iload_n hx hb dX11_betters_99 rfl (lv_at hl 3 rfl) ?_
    refine g_iconst X dX11_betters_100 ?_
    refine g_iadd X dX11_betters_101 ?_
    obtain ⟨v4, ev4, hf⟩ := lt_some hf
    have hv4 : inR v4 := inR_of ev4 (inR_wrap _)
    refine g_ist (v := v4) (lv' := [(4, .int (i2 v4)), (0, .ref (ad 80)), (1, .int (i2 v1)), (2, .int (i2 v2)), (3, .int (i2 v3))]) X ev4 dX11_betters_102 hl (by decide) rfl (fun ls hl => ?_)
    obtain ⟨q, hq, h1, h2⟩ := lpr_some hf
    exact l_X11_betters_104 X v1 hv1 v2 hv2 v3 hv3 (out := q) (fun y4 M1 H locs ls eq hy4 hl w => b_X11_betters_j163k91 X v1 hv1 v2 hv2 HC HE HR v3 hv3 M1 (h1 _ eq) (lv_sub hl [0, 1, 2, 3] rfl) w) (fun r M1 H locs pc ls eq hP w dg => HR r M1 H locs pc ls (Option.some.inj (h2 _ eq)).symm hP w dg) FU v4 M hq hv4 (lv_sub hl [1, 2, 3, 4, 0] rfl) w
set_option maxRecDepth 100000 in
set_option maxHeartbeats 4000000 in
theorem l_X11_betters_91 (X : CX p s m args c cX11_betters 6 RX11 D aC ad sg A H0) (v1 : Int) (hv1 : inR v1) (v2 : Int) (hv2 : inR v2) {out : (Int × Mem) ⊕ (Int × Mem)} (HE : ∀ (y3 : Int) (M1 : Mem) (H : Heap) (locs : List Loc) (ls : Array Slot), out = .inl (y3, M1) → inR y3 → lv_has ls 6 [(0, .ref (ad 80)), (1, .int (i2 v1)), (2, .int (i2 v2)), (3, .int (i2 y3))] → WS D aC ad A H0 M1 H locs → W p l e rm_X11_betters s m args below meth c H locs 0 0 Q (F0 m 169 ls [])) (HR : ∀ (r : Int) (M1 : Mem) (H : Heap) (locs : List Loc) (pc : Nat) (ls : Array Slot), out = .inr (r, M1) → isZ r → WS D aC ad A H0 M1 H locs → decode cX11_betters pc = .ok (.ireturn, 1) → W p l e rm_X11_betters s m args below meth c H locs 0 0 Q (F0 m pc ls [.int (i2 r)])) : ∀ (n : Nat) (v3 : Int) (M : Mem), whl (fun s => f_X11_betters_s91 v1 v2 s.1 s.2) n (v3, M) = some out → inR v3 → ∀ {H : Heap} {locs : List Loc} {ls : Array Slot}, lv_has ls 6 [(0, .ref (ad 80)), (1, .int (i2 v1)), (2, .int (i2 v2)), (3, .int (i2 v3))] → WS D aC ad A H0 M H locs → W p l e rm_X11_betters s m args below meth c H locs 0 0 Q (F0 m 91 ls []) := by
  intro n
  induction n with
  | zero => intro v3 M hf; exact (whl_zero hf).elim
  | succ n ih =>
    intro v3 M hf hv3 H locs ls hl w
    obtain ⟨o, hf, hk1, hk2⟩ := whl_step hf
    exact b_X11_betters_s91 X v1 hv1 v2 hv2 (fun y3 M1 H locs ls eo hy3 hl w => ih y3 M1 (hk1 _ eo) hy3 hl w) (fun y3 M1 H locs ls eo hy3 hl w => HE y3 M1 H locs ls (hk2 _ eo).symm hy3 hl w) (fun r M1 H locs pc ls eo hP w dg => HR r M1 H locs pc ls (hk2 _ eo).symm hP w dg) v3 hv3 M hf hl w
set_option maxRecDepth 100000 in
set_option maxHeartbeats 4000000 in
theorem b_X11_betters_j169 (X : CX p s m args c cX11_betters 6 RX11 D aC ad sg A H0) {o : Int × Mem} (HR : ∀ (r : Int) (M1 : Mem) (H : Heap) (locs : List Loc) (pc : Nat) (ls : Array Slot), o = (r, M1) → isZ r → WS D aC ad A H0 M1 H locs → decode cX11_betters pc = .ok (.ireturn, 1) → W p l e rm_X11_betters s m args below meth c H locs 0 0 Q (F0 m pc ls [.int (i2 r)])) (M : Mem) (hf : f_X11_betters_j169 M = some o) {H : Heap} {locs : List Loc} {ls : Array Slot} (hl : lv_has ls 6 []) (w : WS D aC ad A H0 M H locs) : W p l e rm_X11_betters s m args below meth c H locs 0 0 Q (F0 m 169 ls []) := by
  have hx := X.1.1
  have hb := X.1.2.1
  unfold f_X11_betters_j169 at hf
  refine g_iconst X dX11_betters_169 ?_
  exact HR 0 M _ _ _ _ (Option.some.inj hf).symm (Or.inl rfl) w dX11_betters_170
set_option maxRecDepth 100000 in
set_option maxHeartbeats 4000000 in
theorem b_X11_betters_j89 (X : CX p s m args c cX11_betters 6 RX11 D aC ad sg A H0) {o : Int × Mem} (HR : ∀ (r : Int) (M1 : Mem) (H : Heap) (locs : List Loc) (pc : Nat) (ls : Array Slot), o = (r, M1) → isZ r → WS D aC ad A H0 M1 H locs → decode cX11_betters pc = .ok (.ireturn, 1) → W p l e rm_X11_betters s m args below meth c H locs 0 0 Q (F0 m pc ls [.int (i2 r)])) (v1 : Int) (hv1 : inR v1) (v2 : Int) (hv2 : inR v2) (M : Mem) (hf : f_X11_betters_j89 v1 v2 M = some o) {H : Heap} {locs : List Loc} {ls : Array Slot} (hl : lv_has ls 6 [(0, .ref (ad 80)), (1, .int (i2 v1)), (2, .int (i2 v2))]) (w : WS D aC ad A H0 M H locs) : W p l e rm_X11_betters s m args below meth c H locs 0 0 Q (F0 m 89 ls []) := by
  have hx := X.1.1
  have hb := X.1.2.1
  unfold f_X11_betters_j89 at hf
  refine g_iconst X dX11_betters_89 ?_
  refine g_istn (v := 0) (lv' := [(3, .int (i2 0)), (0, .ref (ad 80)), (1, .int (i2 v1)), (2, .int (i2 v2))]) X rfl dX11_betters_90 rfl hl (by decide) rfl (fun ls hl => ?_)
  obtain ⟨q, hq, h1, h2⟩ := lpr_some hf
  exact l_X11_betters_91 X v1 hv1 v2 hv2 (out := q) (fun y3 M1 H locs ls eq hy3 hl w => b_X11_betters_j169 X  HR M1 (h1 _ eq) (lv_sub hl [] rfl) w) (fun r M1 H locs pc ls eq hP w dg => HR r M1 H locs pc ls (Option.some.inj (h2 _ eq)).symm hP w dg) FU 0 M hq (inL rfl) (lv_sub hl [1, 2, 3, 0] rfl) w
set_option maxRecDepth 100000 in
set_option maxHeartbeats 4000000 in
theorem b_X11_betters_0 (X : CX p s m args c cX11_betters 6 RX11 D aC ad sg A H0) {o : Int × Mem} (HR : ∀ (r : Int) (M1 : Mem) (H : Heap) (locs : List Loc) (pc : Nat) (ls : Array Slot), o = (r, M1) → isZ r → WS D aC ad A H0 M1 H locs → decode cX11_betters pc = .ok (.ireturn, 1) → W p l e rm_X11_betters s m args below meth c H locs 0 0 Q (F0 m pc ls [.int (i2 r)])) (M : Mem) (hf : f_X11_betters M = some o) {H : Heap} {locs : List Loc} {ls : Array Slot} (hl : lv_has ls 6 [(0, .ref (ad 80))]) (w : WS D aC ad A H0 M H locs) : W p l e rm_X11_betters s m args below meth c H locs 0 0 Q (F0 m 0 ls []) := by
  have hx := X.1.1
  have hb := X.1.2.1
  unfold f_X11_betters at hf
  refine lv_aload_n hx hb dX11_betters_0 rfl (lv_at hl 0 rfl) ?_
  obtain ⟨r, hc, hf⟩ := obn_some hf
  refine g_cvi (As := []) (rest := []) X w (k_X11_lack X.2.2.1  w.2.2 hc) lk_X11_355 cl_11 KD_80 ⟨rfl, rfl⟩ ⟨nle rfl, nle rfl⟩ ⟨nle rfl, nle rfl⟩ hl.1 rfl (nle rfl) dX11_betters_1 (fun hr H locs w => ?_)
  refine g_istn (v := r) (lv' := [(1, .int (i2 r)), (0, .ref (ad 80))]) X rfl dX11_betters_4 rfl hl (by decide) rfl (fun ls hl => ?_)
  refine lv_aload_n hx hb dX11_betters_5 rfl (lv_at hl 1 rfl) ?_
  obtain ⟨r_2, hc, hf⟩ := obn_some hf
  refine g_cvi (As := []) (rest := []) X w (k_X11_allHarm X.2.2.1  w.2.2 hc) lk_X11_358 cl_11 KD_80 ⟨rfl, rfl⟩ ⟨nle rfl, nle rfl⟩ ⟨nle rfl, nle rfl⟩ hl.1 rfl (nle rfl) dX11_betters_6 (fun hr_2 H locs w => ?_)
  refine g_istn (v := r_2) (lv' := [(2, .int (i2 r_2)), (1, .int (i2 r)), (0, .ref (ad 80))]) X rfl dX11_betters_9 rfl hl (by decide) rfl (fun ls hl => ?_)
  refine g_iconst X dX11_betters_10 ?_
  refine g_istn (v := 0) (lv' := [(3, .int (i2 0)), (2, .int (i2 r_2)), (1, .int (i2 r)), (0, .ref (ad 80))]) X rfl dX11_betters_11 rfl hl (by decide) rfl (fun ls hl => ?_)
  obtain ⟨q, hq, h1, h2⟩ := lpr_some hf
  exact l_X11_betters_12 X r hr r_2 hr_2 (out := q) (fun y3 M1 H locs ls eq hy3 hl w => b_X11_betters_j89 X  HR r hr r_2 hr_2 M1 (h1 _ eq) (lv_sub hl [0, 1, 2] rfl) w) (fun r M1 H locs pc ls eq hP w dg => HR r M1 H locs pc ls (Option.some.inj (h2 _ eq)).symm hP w dg) FU 0 M hq (inL rfl) (lv_sub hl [3, 2, 1, 0] rfl) w
set_option maxRecDepth 100000 in
set_option maxHeartbeats 4000000 in
theorem k_X11_betters {l : Launch} {D : va_G} {aC : Nat → ClassId} {ad : Nat → Nat} {sg : SG} (hi : Inj ad)  {M : Mem} (hM : inM M) {r : Int} {M' : Mem} (hf : f_X11_betters M = some (r, M')) : MetI l D aC ad sg yX11_betters cX11_betters 6 (some .boolean) rm_X11_betters 0 0 [.ref (ad 80)] M r M' := by
  refine MetI.ofZ (by decide +kernel) (nle rfl) hi hM (fun p e s m args below meth c Q H0 ls X hl w hret => ?_)
  exact b_X11_betters_0 X  (fun r1 M1 H locs pc ls eo hP w dg => by cases eo; exact hret H locs pc ls hP w dg) M hf hl w
set_option maxRecDepth 100000 in
set_option maxHeartbeats 4000000 in
theorem b_X11_make_s24 (X : CX p s m args c cX11_make 2 RX11 D aC ad sg A H0) {o : (Int × Mem) ⊕ (Int × Mem)} (HC : ∀ (y1 : Int) (M1 : Mem) (H : Heap) (locs : List Loc) (ls : Array Slot), o = .inl (y1, M1) → inR y1 → lv_has ls 2 [(0, .ref (ad 80)), (1, .int (i2 y1))] → WS D aC ad A H0 M1 H locs → W p l e rm_X11_make s m args below meth c H locs 0 0 Q (F0 m 24 ls [])) (HE : ∀ (y1 : Int) (M1 : Mem) (H : Heap) (locs : List Loc) (ls : Array Slot), o = .inr (y1, M1) → inR y1 → lv_has ls 2 [(0, .ref (ad 80)), (1, .int (i2 y1))] → WS D aC ad A H0 M1 H locs → W p l e rm_X11_make s m args below meth c H locs 0 0 Q (F0 m 45 ls [])) (v1 : Int) (hv1 : inR v1) (M : Mem) (hf : f_X11_make_s24 v1 M = some o) {H : Heap} {locs : List Loc} {ls : Array Slot} (hl : lv_has ls 2 [(0, .ref (ad 80)), (1, .int (i2 v1))]) (w : WS D aC ad A H0 M H locs) : W p l e rm_X11_make s m args below meth c H locs 0 0 Q (F0 m 24 ls []) := by
  have hx := X.1.1
  have hb := X.1.2.1
  unfold f_X11_make_s24 at hf
  refine lv_iload_n hx hb dX11_make_24 rfl (lv_at hl 1 rfl) ?_
  refine lv_aload_n hx hb dX11_make_25 rfl (lv_at hl 0 rfl) ?_
  refine g_geti X w fg_X11_142 KD_80 FR_80_1 dX11_make_26 ?_
  refine g_icmp_ge (tgt := 45) X hv1 (w.2.2 _ _) dX11_make_29 (by decide) (fun cd => ?_) (fun cd => ?_)
  · replace hf := ite_t cd hf
    exact HE v1 M _ _ _ (Option.some.inj hf).symm hv1 hl w
  · replace hf := ite_f cd hf
    refine lv_aload_n hx hb dX11_make_32 rfl (lv_at hl 0 rfl) ?_
    refine g_getr X w fg_X11_100 KD_80 FR_80_41 dX11_make_33 ?_
    refine lv_iload_n hx hb dX11_make_36 rfl (lv_at hl 1 rfl) ?_
    refine g_iconst X dX11_make_37 ?_
    obtain ⟨hg, hf⟩ := gd_some hf
    obtain ⟨M_2, eM_2, hf⟩ := lt_some hf
    refine g_iast X w KD_108 hv1 hg (inL rfl) dX11_make_38 (fun H locs w_M_2 => ?_)
    rw [← eM_2] at w_M_2
    obtain ⟨v1_2, ev1_2, hf⟩ := lt_some hf
    have hv1_2 : inR v1_2 := inR_of ev1_2 (inR_wrap _)
    refine lv_iinc (v := i2 v1_2) (lv' := [(1, .int (i2 v1_2)), (0, .ref (ad 80))]) hx hb dX11_make_39 hl (k := 1) rfl (by rw [ev1_2]; exact i2_add _ _) (by decide) rfl (fun ls hl => ?_)
    refine lv_goto (tgt := 24) hx hb dX11_make_42 (by decide) ?_
    exact HC v1_2 M_2 _ _ _ (Option.some.inj hf).symm hv1_2 (lv_sub hl [1, 0] rfl) w_M_2
set_option maxRecDepth 100000 in
set_option maxHeartbeats 4000000 in
theorem l_X11_make_24 (X : CX p s m args c cX11_make 2 RX11 D aC ad sg A H0) {out : Int × Mem} (HE : ∀ (y1 : Int) (M1 : Mem) (H : Heap) (locs : List Loc) (ls : Array Slot), out = (y1, M1) → inR y1 → lv_has ls 2 [(0, .ref (ad 80)), (1, .int (i2 y1))] → WS D aC ad A H0 M1 H locs → W p l e rm_X11_make s m args below meth c H locs 0 0 Q (F0 m 45 ls [])) : ∀ (n : Nat) (v1 : Int) (M : Mem), whl (fun s => f_X11_make_s24 s.1 s.2) n (v1, M) = some out → inR v1 → ∀ {H : Heap} {locs : List Loc} {ls : Array Slot}, lv_has ls 2 [(0, .ref (ad 80)), (1, .int (i2 v1))] → WS D aC ad A H0 M H locs → W p l e rm_X11_make s m args below meth c H locs 0 0 Q (F0 m 24 ls []) := by
  intro n
  induction n with
  | zero => intro v1 M hf; exact (whl_zero hf).elim
  | succ n ih =>
    intro v1 M hf hv1 H locs ls hl w
    obtain ⟨o, hf, hk1, hk2⟩ := whl_step hf
    exact b_X11_make_s24 X  (fun y1 M1 H locs ls eo hy1 hl w => ih y1 M1 (hk1 _ eo) hy1 hl w) (fun y1 M1 H locs ls eo hy1 hl w => HE y1 M1 H locs ls (hk2 _ eo).symm hy1 hl w) v1 hv1 M hf hl w
set_option maxRecDepth 100000 in
set_option maxHeartbeats 4000000 in
theorem b_X11_make_s47 (X : CX p s m args c cX11_make 2 RX11 D aC ad sg A H0) {o : (Int × Mem) ⊕ ((Int × Mem) ⊕ (Int × Mem))} (HC : ∀ (y1 : Int) (M1 : Mem) (H : Heap) (locs : List Loc) (ls : Array Slot), o = .inl (y1, M1) → inR y1 → lv_has ls 2 [(0, .ref (ad 80)), (1, .int (i2 y1))] → WS D aC ad A H0 M1 H locs → W p l e rm_X11_make s m args below meth c H locs 0 0 Q (F0 m 47 ls [])) (HE : ∀ (y1 : Int) (M1 : Mem) (H : Heap) (locs : List Loc) (ls : Array Slot), o = .inr (.inl (y1, M1)) → inR y1 → lv_has ls 2 [(0, .ref (ad 80)), (1, .int (i2 y1))] → WS D aC ad A H0 M1 H locs → W p l e rm_X11_make s m args below meth c H locs 0 0 Q (F0 m 74 ls [])) (HR : ∀ (r : Int) (M1 : Mem) (H : Heap) (locs : List Loc) (pc : Nat) (ls : Array Slot), o = .inr (.inr (r, M1)) → inR r → WS D aC ad A H0 M1 H locs → decode cX11_make pc = .ok (.ireturn, 1) → W p l e rm_X11_make s m args below meth c H locs 0 0 Q (F0 m pc ls [.int (i2 r)])) (v1 : Int) (hv1 : inR v1) (M : Mem) (hf : f_X11_make_s47 v1 M = some o) {H : Heap} {locs : List Loc} {ls : Array Slot} (hl : lv_has ls 2 [(0, .ref (ad 80)), (1, .int (i2 v1))]) (w : WS D aC ad A H0 M H locs) : W p l e rm_X11_make s m args below meth c H locs 0 0 Q (F0 m 47 ls []) := by
  have hx := X.1.1
  have hb := X.1.2.1
  unfold f_X11_make_s47 at hf
  refine lv_iload_n hx hb dX11_make_47 rfl (lv_at hl 1 rfl) ?_
  refine lv_aload_n hx hb dX11_make_48 rfl (lv_at hl 0 rfl) ?_
  refine g_geti X w fg_X11_142 KD_80 FR_80_1 dX11_make_49 ?_
  refine g_icmp_ge (tgt := 74) X hv1 (w.2.2 _ _) dX11_make_52 (by decide) (fun cd => ?_) (fun cd => ?_)
  · replace hf := ite_t cd hf
    exact HE v1 M _ _ _ (Option.some.inj hf).symm hv1 hl w
  · replace hf := ite_f cd hf
    refine lv_aload_n hx hb dX11_make_55 rfl (lv_at hl 0 rfl) ?_
    refine lv_iload_n hx hb dX11_make_56 rfl (lv_at hl 1 rfl) ?_
    refine g_iconst X dX11_make_57 ?_
    obtain ⟨r, M_2, hc, hf⟩ := bnd_some hf
    refine g_cvi (As := [.int (i2 v1), .int (i2 0)]) (rest := []) X w (k_X11_softest X.2.2.1 v1 hv1 0 (inL rfl) w.2.2 hc) lk_X11_367 cl_11 KD_80 ⟨rfl, rfl⟩ ⟨nle rfl, nle rfl⟩ ⟨nle rfl, nle rfl⟩ hl.1 rfl (nle rfl) dX11_make_58 (fun hr H locs w_M_2 => ?_)
    refine g_iconst X dX11_make_61 ?_
    refine g_icmp_ne (tgt := 68) X hr (inL rfl) dX11_make_62 (by decide) (fun cd_2 => ?_) (fun cd_2 => ?_)
    · replace hf := ite_f cd_2 hf
      obtain ⟨v1_2, ev1_2, hf⟩ := lt_some hf
      have hv1_2 : inR v1_2 := inR_of ev1_2 (inR_wrap _)
      refine lv_iinc (v := i2 v1_2) (lv' := [(1, .int (i2 v1_2)), (0, .ref (ad 80))]) hx hb dX11_make_68 hl (k := 1) rfl (by rw [ev1_2]; exact i2_add _ _) (by decide) rfl (fun ls hl => ?_)
      refine lv_goto (tgt := 47) hx hb dX11_make_71 (by decide) ?_
      exact HC v1_2 M_2 _ _ _ (Option.some.inj hf).symm hv1_2 (lv_sub hl [1, 0] rfl) w_M_2
    · replace hf := ite_t cd_2 hf
      refine g_bipush X dX11_make_65 (by decide) ?_
      exact HR (-2) M_2 _ _ _ _ (Option.some.inj hf).symm (inL rfl) w_M_2 dX11_make_67
set_option maxRecDepth 100000 in
set_option maxHeartbeats 4000000 in
theorem l_X11_make_47 (X : CX p s m args c cX11_make 2 RX11 D aC ad sg A H0) {out : (Int × Mem) ⊕ (Int × Mem)} (HE : ∀ (y1 : Int) (M1 : Mem) (H : Heap) (locs : List Loc) (ls : Array Slot), out = .inl (y1, M1) → inR y1 → lv_has ls 2 [(0, .ref (ad 80)), (1, .int (i2 y1))] → WS D aC ad A H0 M1 H locs → W p l e rm_X11_make s m args below meth c H locs 0 0 Q (F0 m 74 ls [])) (HR : ∀ (r : Int) (M1 : Mem) (H : Heap) (locs : List Loc) (pc : Nat) (ls : Array Slot), out = .inr (r, M1) → inR r → WS D aC ad A H0 M1 H locs → decode cX11_make pc = .ok (.ireturn, 1) → W p l e rm_X11_make s m args below meth c H locs 0 0 Q (F0 m pc ls [.int (i2 r)])) : ∀ (n : Nat) (v1 : Int) (M : Mem), whl (fun s => f_X11_make_s47 s.1 s.2) n (v1, M) = some out → inR v1 → ∀ {H : Heap} {locs : List Loc} {ls : Array Slot}, lv_has ls 2 [(0, .ref (ad 80)), (1, .int (i2 v1))] → WS D aC ad A H0 M H locs → W p l e rm_X11_make s m args below meth c H locs 0 0 Q (F0 m 47 ls []) := by
  intro n
  induction n with
  | zero => intro v1 M hf; exact (whl_zero hf).elim
  | succ n ih =>
    intro v1 M hf hv1 H locs ls hl w
    obtain ⟨o, hf, hk1, hk2⟩ := whl_step hf
    exact b_X11_make_s47 X  (fun y1 M1 H locs ls eo hy1 hl w => ih y1 M1 (hk1 _ eo) hy1 hl w) (fun y1 M1 H locs ls eo hy1 hl w => HE y1 M1 H locs ls (hk2 _ eo).symm hy1 hl w) (fun r M1 H locs pc ls eo hP w dg => HR r M1 H locs pc ls (hk2 _ eo).symm hP w dg) v1 hv1 M hf hl w
set_option maxRecDepth 100000 in
set_option maxHeartbeats 4000000 in
theorem b_X11_make_s79 (X : CX p s m args c cX11_make 2 RX11 D aC ad sg A H0) {o : (Mem) ⊕ (Mem)} (HC : ∀  (M1 : Mem) (H : Heap) (locs : List Loc) (ls : Array Slot), o = .inl M1 → lv_has ls 2 [(0, .ref (ad 80))] → WS D aC ad A H0 M1 H locs → W p l e rm_X11_make s m args below meth c H locs 0 0 Q (F0 m 79 ls [])) (HE : ∀  (M1 : Mem) (H : Heap) (locs : List Loc) (ls : Array Slot), o = .inr M1 → lv_has ls 2 [(0, .ref (ad 80))] → WS D aC ad A H0 M1 H locs → W p l e rm_X11_make s m args below meth c H locs 0 0 Q (F0 m 99 ls [])) (M : Mem) (hf : f_X11_make_s79 M = some o) {H : Heap} {locs : List Loc} {ls : Array Slot} (hl : lv_has ls 2 [(0, .ref (ad 80))]) (w : WS D aC ad A H0 M H locs) : W p l e rm_X11_make s m args below meth c H locs 0 0 Q (F0 m 79 ls []) := by
  have hx := X.1.1
  have hb := X.1.2.1
  unfold f_X11_make_s79 at hf
  refine lv_aload_n hx hb dX11_make_79 rfl (lv_at hl 0 rfl) ?_
  obtain ⟨r, M_2, hc, hf⟩ := bnd_some hf
  refine g_cvi (As := []) (rest := []) X w (k_X11_betters X.2.2.1  w.2.2 hc) lk_X11_371 cl_11 KD_80 ⟨rfl, rfl⟩ ⟨nle rfl, nle rfl⟩ ⟨nle rfl, nle rfl⟩ hl.1 rfl (nle rfl) dX11_make_80 (fun hr H locs w_M_2 => ?_)
  refine g_if_eq (tgt := 99) X hr dX11_make_83 (by decide) (fun cd => ?_) (fun cd => ?_)
  · replace hf := ite_t cd hf
    exact HE  M_2 _ _ _ (Option.some.inj hf).symm  hl w_M_2
  · replace hf := ite_f cd hf
    refine lv_aload_n hx hb dX11_make_86 rfl (lv_at hl 0 rfl) ?_
    refine lv_dup hx hb dX11_make_87 rfl ?_
    refine g_geti X w_M_2 fg_X11_109 KD_80 FR_80_48 dX11_make_88 ?_
    refine g_iconst X dX11_make_91 ?_
    refine g_iadd X dX11_make_92 ?_
    obtain ⟨M_3, eM_3, hf⟩ := lt_some hf
    refine g_puti X w_M_2 fp_X11_109 KD_80 FR_80_48 (inR_wrap _) dX11_make_93 (fun H locs w_M_3 => ?_)
    rw [← eM_3] at w_M_3
    refine lv_goto (tgt := 79) hx hb dX11_make_96 (by decide) ?_
    exact HC  M_3 _ _ _ (Option.some.inj hf).symm  hl w_M_3
set_option maxRecDepth 100000 in
set_option maxHeartbeats 4000000 in
theorem l_X11_make_79 (X : CX p s m args c cX11_make 2 RX11 D aC ad sg A H0) {out : Mem} (HE : ∀  (M1 : Mem) (H : Heap) (locs : List Loc) (ls : Array Slot), out = M1 → lv_has ls 2 [(0, .ref (ad 80))] → WS D aC ad A H0 M1 H locs → W p l e rm_X11_make s m args below meth c H locs 0 0 Q (F0 m 99 ls [])) : ∀ (n : Nat)  (M : Mem), whl (fun s => f_X11_make_s79 s) n M = some out → ∀ {H : Heap} {locs : List Loc} {ls : Array Slot}, lv_has ls 2 [(0, .ref (ad 80))] → WS D aC ad A H0 M H locs → W p l e rm_X11_make s m args below meth c H locs 0 0 Q (F0 m 79 ls []) := by
  intro n
  induction n with
  | zero => intro M hf; exact (whl_zero hf).elim
  | succ n ih =>
    intro M hf  H locs ls hl w
    obtain ⟨o, hf, hk1, hk2⟩ := whl_step hf
    exact b_X11_make_s79 X  (fun  M1 H locs ls eo  hl w => ih  M1 (hk1 _ eo)  hl w) (fun  M1 H locs ls eo  hl w => HE  M1 H locs ls (hk2 _ eo).symm  hl w)  M hf hl w
set_option maxRecDepth 100000 in
set_option maxHeartbeats 4000000 in
theorem b_X11_make_s101 (X : CX p s m args c cX11_make 2 RX11 D aC ad sg A H0) {o : (Int × Mem) ⊕ (Int × Mem)} (HC : ∀ (y1 : Int) (M1 : Mem) (H : Heap) (locs : List Loc) (ls : Array Slot), o = .inl (y1, M1) → inR y1 → lv_has ls 2 [(0, .ref (ad 80)), (1, .int (i2 y1))] → WS D aC ad A H0 M1 H locs → W p l e rm_X11_make s m args below meth c H locs 0 0 Q (F0 m 101 ls [])) (HE : ∀ (y1 : Int) (M1 : Mem) (H : Heap) (locs : List Loc) (ls : Array Slot), o = .inr (y1, M1) → inR y1 → lv_has ls 2 [(0, .ref (ad 80)), (1, .int (i2 y1))] → WS D aC ad A H0 M1 H locs → W p l e rm_X11_make s m args below meth c H locs 0 0 Q (F0 m 127 ls [])) (v1 : Int) (hv1 : inR v1) (M : Mem) (hf : f_X11_make_s101 v1 M = some o) {H : Heap} {locs : List Loc} {ls : Array Slot} (hl : lv_has ls 2 [(0, .ref (ad 80)), (1, .int (i2 v1))]) (w : WS D aC ad A H0 M H locs) : W p l e rm_X11_make s m args below meth c H locs 0 0 Q (F0 m 101 ls []) := by
  have hx := X.1.1
  have hb := X.1.2.1
  unfold f_X11_make_s101 at hf
  refine lv_iload_n hx hb dX11_make_101 rfl (lv_at hl 1 rfl) ?_
  refine lv_aload_n hx hb dX11_make_102 rfl (lv_at hl 0 rfl) ?_
  refine g_geti X w fg_X11_142 KD_80 FR_80_1 dX11_make_103 ?_
  refine g_icmp_ge (tgt := 127) X hv1 (w.2.2 _ _) dX11_make_106 (by decide) (fun cd => ?_) (fun cd => ?_)
  · replace hf := ite_t cd hf
    exact HE v1 M _ _ _ (Option.some.inj hf).symm hv1 hl w
  · replace hf := ite_f cd hf
    refine lv_aload_n hx hb dX11_make_109 rfl (lv_at hl 0 rfl) ?_
    refine g_getr X w fg_X11_106 KD_80 FR_80_47 dX11_make_110 ?_
    refine lv_iload_n hx hb dX11_make_113 rfl (lv_at hl 1 rfl) ?_
    refine lv_aload_n hx hb dX11_make_114 rfl (lv_at hl 0 rfl) ?_
    refine g_getr X w fg_X11_100 KD_80 FR_80_41 dX11_make_115 ?_
    refine lv_iload_n hx hb dX11_make_118 rfl (lv_at hl 1 rfl) ?_
    obtain ⟨hg, hf⟩ := gd_some hf
    refine g_iald X w KD_108 hv1 hg dX11_make_119 ?_
    obtain ⟨hg_2, hf⟩ := gd_some hf
    obtain ⟨M_2, eM_2, hf⟩ := lt_some hf
    refine g_iast X w KD_110 hv1 hg_2 (w.2.2 _ _) dX11_make_120 (fun H locs w_M_2 => ?_)
    rw [← eM_2] at w_M_2
    obtain ⟨v1_2, ev1_2, hf⟩ := lt_some hf
    have hv1_2 : inR v1_2 := inR_of ev1_2 (inR_wrap _)
    refine lv_iinc (v := i2 v1_2) (lv' := [(1, .int (i2 v1_2)), (0, .ref (ad 80))]) hx hb dX11_make_121 hl (k := 1) rfl (by rw [ev1_2]; exact i2_add _ _) (by decide) rfl (fun ls hl => ?_)
    refine lv_goto (tgt := 101) hx hb dX11_make_124 (by decide) ?_
    exact HC v1_2 M_2 _ _ _ (Option.some.inj hf).symm hv1_2 (lv_sub hl [1, 0] rfl) w_M_2
set_option maxRecDepth 100000 in
set_option maxHeartbeats 4000000 in
theorem l_X11_make_101 (X : CX p s m args c cX11_make 2 RX11 D aC ad sg A H0) {out : Int × Mem} (HE : ∀ (y1 : Int) (M1 : Mem) (H : Heap) (locs : List Loc) (ls : Array Slot), out = (y1, M1) → inR y1 → lv_has ls 2 [(0, .ref (ad 80)), (1, .int (i2 y1))] → WS D aC ad A H0 M1 H locs → W p l e rm_X11_make s m args below meth c H locs 0 0 Q (F0 m 127 ls [])) : ∀ (n : Nat) (v1 : Int) (M : Mem), whl (fun s => f_X11_make_s101 s.1 s.2) n (v1, M) = some out → inR v1 → ∀ {H : Heap} {locs : List Loc} {ls : Array Slot}, lv_has ls 2 [(0, .ref (ad 80)), (1, .int (i2 v1))] → WS D aC ad A H0 M H locs → W p l e rm_X11_make s m args below meth c H locs 0 0 Q (F0 m 101 ls []) := by
  intro n
  induction n with
  | zero => intro v1 M hf; exact (whl_zero hf).elim
  | succ n ih =>
    intro v1 M hf hv1 H locs ls hl w
    obtain ⟨o, hf, hk1, hk2⟩ := whl_step hf
    exact b_X11_make_s101 X  (fun y1 M1 H locs ls eo hy1 hl w => ih y1 M1 (hk1 _ eo) hy1 hl w) (fun y1 M1 H locs ls eo hy1 hl w => HE y1 M1 H locs ls (hk2 _ eo).symm hy1 hl w) v1 hv1 M hf hl w
set_option maxRecDepth 100000 in
set_option maxHeartbeats 4000000 in
theorem b_X11_make_j127 (X : CX p s m args c cX11_make 2 RX11 D aC ad sg A H0) {o : Int × Mem} (HR : ∀ (r : Int) (M1 : Mem) (H : Heap) (locs : List Loc) (pc : Nat) (ls : Array Slot), o = (r, M1) → inR r → WS D aC ad A H0 M1 H locs → decode cX11_make pc = .ok (.ireturn, 1) → W p l e rm_X11_make s m args below meth c H locs 0 0 Q (F0 m pc ls [.int (i2 r)])) (M : Mem) (hf : f_X11_make_j127 M = some o) {H : Heap} {locs : List Loc} {ls : Array Slot} (hl : lv_has ls 2 [(0, .ref (ad 80))]) (w : WS D aC ad A H0 M H locs) : W p l e rm_X11_make s m args below meth c H locs 0 0 Q (F0 m 127 ls []) := by
  have hx := X.1.1
  have hb := X.1.2.1
  unfold f_X11_make_j127 at hf
  refine lv_aload_n hx hb dX11_make_127 rfl (lv_at hl 0 rfl) ?_
  obtain ⟨r, hc, hf⟩ := obn_some hf
  refine g_cvi (As := []) (rest := []) X w (k_X11_lack X.2.2.1  w.2.2 hc) lk_X11_355 cl_11 KD_80 ⟨rfl, rfl⟩ ⟨nle rfl, nle rfl⟩ ⟨nle rfl, nle rfl⟩ hl.1 rfl (nle rfl) dX11_make_128 (fun hr H locs w => ?_)
  refine g_if_le (tgt := 139) X hr dX11_make_131 (by decide) (fun cd => ?_) (fun cd => ?_)
  · replace hf := ite_t cd hf
    refine lv_aload_n hx hb dX11_make_139 rfl (lv_at hl 0 rfl) ?_
    obtain ⟨r_2, hc, hf⟩ := obn_some hf
    refine g_cvi (As := []) (rest := []) X w (k_X11_allHarm X.2.2.1  w.2.2 hc) lk_X11_358 cl_11 KD_80 ⟨rfl, rfl⟩ ⟨nle rfl, nle rfl⟩ ⟨nle rfl, nle rfl⟩ hl.1 rfl (nle rfl) dX11_make_140 (fun hr_2 H locs w => ?_)
    exact HR r_2 M _ _ _ _ (Option.some.inj hf).symm hr_2 w dX11_make_143
  · replace hf := ite_f cd hf
    refine g_bipush X dX11_make_134 (by decide) ?_
    refine lv_goto (tgt := 143) hx hb dX11_make_136 (by decide) ?_
    exact HR (-4) M _ _ _ _ (Option.some.inj hf).symm (inL rfl) w dX11_make_143
set_option maxRecDepth 100000 in
set_option maxHeartbeats 4000000 in
theorem b_X11_make_j99 (X : CX p s m args c cX11_make 2 RX11 D aC ad sg A H0) {o : Int × Mem} (HR : ∀ (r : Int) (M1 : Mem) (H : Heap) (locs : List Loc) (pc : Nat) (ls : Array Slot), o = (r, M1) → inR r → WS D aC ad A H0 M1 H locs → decode cX11_make pc = .ok (.ireturn, 1) → W p l e rm_X11_make s m args below meth c H locs 0 0 Q (F0 m pc ls [.int (i2 r)])) (M : Mem) (hf : f_X11_make_j99 M = some o) {H : Heap} {locs : List Loc} {ls : Array Slot} (hl : lv_has ls 2 [(0, .ref (ad 80))]) (w : WS D aC ad A H0 M H locs) : W p l e rm_X11_make s m args below meth c H locs 0 0 Q (F0 m 99 ls []) := by
  have hx := X.1.1
  have hb := X.1.2.1
  unfold f_X11_make_j99 at hf
  refine g_iconst X dX11_make_99 ?_
  refine g_istn (v := 0) (lv' := [(1, .int (i2 0)), (0, .ref (ad 80))]) X rfl dX11_make_100 rfl hl (by decide) rfl (fun ls hl => ?_)
  obtain ⟨q, hq, h1⟩ := obn_some hf
  exact l_X11_make_101 X  (out := q) (fun y1 M1 H locs ls eq hy1 hl w => b_X11_make_j127 X  HR M1 (by subst eq; exact h1) (lv_sub hl [0] rfl) w)  FU 0 M hq (inL rfl) (lv_sub hl [1, 0] rfl) w
set_option maxRecDepth 100000 in
set_option maxHeartbeats 4000000 in
theorem b_X11_make_j74 (X : CX p s m args c cX11_make 2 RX11 D aC ad sg A H0) {o : Int × Mem} (HR : ∀ (r : Int) (M1 : Mem) (H : Heap) (locs : List Loc) (pc : Nat) (ls : Array Slot), o = (r, M1) → inR r → WS D aC ad A H0 M1 H locs → decode cX11_make pc = .ok (.ireturn, 1) → W p l e rm_X11_make s m args below meth c H locs 0 0 Q (F0 m pc ls [.int (i2 r)])) (M : Mem) (hf : f_X11_make_j74 M = some o) {H : Heap} {locs : List Loc} {ls : Array Slot} (hl : lv_has ls 2 [(0, .ref (ad 80))]) (w : WS D aC ad A H0 M H locs) : W p l e rm_X11_make s m args below meth c H locs 0 0 Q (F0 m 74 ls []) := by
  have hx := X.1.1
  have hb := X.1.2.1
  unfold f_X11_make_j74 at hf
  refine lv_aload_n hx hb dX11_make_74 rfl (lv_at hl 0 rfl) ?_
  refine g_iconst X dX11_make_75 ?_
  obtain ⟨M_2, eM_2, hf⟩ := lt_some hf
  refine g_puti X w fp_X11_109 KD_80 FR_80_48 (inL rfl) dX11_make_76 (fun H locs w_M_2 => ?_)
  rw [← eM_2] at w_M_2
  obtain ⟨q, hq, h1⟩ := obn_some hf
  exact l_X11_make_79 X  (out := q) (fun  M1 H locs ls eq  hl w => b_X11_make_j99 X  HR M1 (by subst eq; exact h1) hl w)  FU M_2 hq  hl w_M_2
set_option maxRecDepth 100000 in
set_option maxHeartbeats 4000000 in
theorem b_X11_make_j45 (X : CX p s m args c cX11_make 2 RX11 D aC ad sg A H0) {o : Int × Mem} (HR : ∀ (r : Int) (M1 : Mem) (H : Heap) (locs : List Loc) (pc : Nat) (ls : Array Slot), o = (r, M1) → inR r → WS D aC ad A H0 M1 H locs → decode cX11_make pc = .ok (.ireturn, 1) → W p l e rm_X11_make s m args below meth c H locs 0 0 Q (F0 m pc ls [.int (i2 r)])) (M : Mem) (hf : f_X11_make_j45 M = some o) {H : Heap} {locs : List Loc} {ls : Array Slot} (hl : lv_has ls 2 [(0, .ref (ad 80))]) (w : WS D aC ad A H0 M H locs) : W p l e rm_X11_make s m args below meth c H locs 0 0 Q (F0 m 45 ls []) := by
  have hx := X.1.1
  have hb := X.1.2.1
  unfold f_X11_make_j45 at hf
  refine g_iconst X dX11_make_45 ?_
  refine g_istn (v := 0) (lv' := [(1, .int (i2 0)), (0, .ref (ad 80))]) X rfl dX11_make_46 rfl hl (by decide) rfl (fun ls hl => ?_)
  obtain ⟨q, hq, h1, h2⟩ := lpr_some hf
  exact l_X11_make_47 X  (out := q) (fun y1 M1 H locs ls eq hy1 hl w => b_X11_make_j74 X  HR M1 (h1 _ eq) (lv_sub hl [0] rfl) w) (fun r M1 H locs pc ls eq hP w dg => HR r M1 H locs pc ls (Option.some.inj (h2 _ eq)).symm hP w dg) FU 0 M hq (inL rfl) (lv_sub hl [1, 0] rfl) w
set_option maxRecDepth 100000 in
set_option maxHeartbeats 4000000 in
theorem b_X11_make_0 (X : CX p s m args c cX11_make 2 RX11 D aC ad sg A H0) {o : Int × Mem} (HR : ∀ (r : Int) (M1 : Mem) (H : Heap) (locs : List Loc) (pc : Nat) (ls : Array Slot), o = (r, M1) → inR r → WS D aC ad A H0 M1 H locs → decode cX11_make pc = .ok (.ireturn, 1) → W p l e rm_X11_make s m args below meth c H locs 0 0 Q (F0 m pc ls [.int (i2 r)])) (M : Mem) (hf : f_X11_make M = some o) {H : Heap} {locs : List Loc} {ls : Array Slot} (hl : lv_has ls 2 [(0, .ref (ad 80))]) (w : WS D aC ad A H0 M H locs) : W p l e rm_X11_make s m args below meth c H locs 0 0 Q (F0 m 0 ls []) := by
  have hx := X.1.1
  have hb := X.1.2.1
  unfold f_X11_make at hf
  refine lv_aload_n hx hb dX11_make_0 rfl (lv_at hl 0 rfl) ?_
  refine g_iconst X dX11_make_1 ?_
  obtain ⟨M_2, eM_2, hf⟩ := lt_some hf
  refine g_puti X w fp_X11_139 KD_80 FR_80_0 (inL rfl) dX11_make_2 (fun H locs w_M_2 => ?_)
  rw [← eM_2] at w_M_2
  refine lv_aload_n hx hb dX11_make_5 rfl (lv_at hl 0 rfl) ?_
  refine g_geti X w_M_2 fg_X11_142 KD_80 FR_80_1 dX11_make_6 ?_
  refine g_if_ne (tgt := 14) X (w_M_2.2.2 _ _) dX11_make_9 (by decide) (fun cd => ?_) (fun cd => ?_)
  · replace hf := ite_f cd hf
    refine lv_aload_n hx hb dX11_make_14 rfl (lv_at hl 0 rfl) ?_
    refine lv_aload_n hx hb dX11_make_15 rfl (lv_at hl 0 rfl) ?_
    refine g_geti X w_M_2 fg_X11_153 KD_80 FR_80_14 dX11_make_16 ?_
    obtain ⟨M_3, hc, hf⟩ := obn_some hf
    refine g_cvv (As := [.int (i2 (M_2 80 14))]) (rest := []) X w_M_2 (k_X11_learns X.2.2.1 (M_2 80 14) (w_M_2.2.2 _ _) w_M_2.2.2 hc) lk_X11_322 cl_11 KD_80 ⟨rfl, rfl⟩ ⟨nle rfl, nle rfl⟩ ⟨nle rfl, nle rfl⟩ hl.1 rfl (nle rfl) dX11_make_19 (fun H locs w_M_3 => ?_)
    refine g_iconst X dX11_make_22 ?_
    refine g_istn (v := 0) (lv' := [(1, .int (i2 0)), (0, .ref (ad 80))]) X rfl dX11_make_23 rfl hl (by decide) rfl (fun ls hl => ?_)
    obtain ⟨q, hq, h1⟩ := obn_some hf
    exact l_X11_make_24 X  (out := q) (fun y1 M1 H locs ls eq hy1 hl w => b_X11_make_j45 X  HR M1 (by subst eq; exact h1) (lv_sub hl [0] rfl) w)  FU 0 M_3 hq (inL rfl) (lv_sub hl [1, 0] rfl) w_M_3
  · replace hf := ite_t cd hf
    refine g_iconst X dX11_make_12 ?_
    exact HR (-1) M_2 _ _ _ _ (Option.some.inj hf).symm (inL rfl) w_M_2 dX11_make_13
set_option maxRecDepth 100000 in
set_option maxHeartbeats 4000000 in
theorem k_X11_make {l : Launch} {D : va_G} {aC : Nat → ClassId} {ad : Nat → Nat} {sg : SG} (hi : Inj ad)  {M : Mem} (hM : inM M) {r : Int} {M' : Mem} (hf : f_X11_make M = some (r, M')) : MetI l D aC ad sg yX11_make cX11_make 2 (some .int) rm_X11_make 0 0 [.ref (ad 80)] M r M' := by
  refine MetI.ofI (by decide +kernel) (nle rfl) hi hM (fun p e s m args below meth c Q H0 ls X hl w hret => ?_)
  exact b_X11_make_0 X  (fun r1 M1 H locs pc ls eo hP w dg => by cases eo; exact hret H locs pc ls hP w dg) M hf hl w
set_option maxRecDepth 100000 in
set_option maxHeartbeats 4000000 in
theorem b_X11_steps_0 (X : CX p s m args c cX11_steps 1 RX11 D aC ad sg A H0) {o : Int × Mem} (HR : ∀ (r : Int) (M1 : Mem) (H : Heap) (locs : List Loc) (pc : Nat) (ls : Array Slot), o = (r, M1) → inR r → WS D aC ad A H0 M1 H locs → decode cX11_steps pc = .ok (.ireturn, 1) → W p l e rm_X11_steps s m args below meth c H locs 0 0 Q (F0 m pc ls [.int (i2 r)])) (M : Mem) (hf : f_X11_steps M = some o) {H : Heap} {locs : List Loc} {ls : Array Slot} (hl : lv_has ls 1 [(0, .ref (ad 80))]) (w : WS D aC ad A H0 M H locs) : W p l e rm_X11_steps s m args below meth c H locs 0 0 Q (F0 m 0 ls []) := by
  have hx := X.1.1
  have hb := X.1.2.1
  unfold f_X11_steps at hf
  refine lv_aload_n hx hb dX11_steps_0 rfl (lv_at hl 0 rfl) ?_
  refine g_iconst X dX11_steps_1 ?_
  obtain ⟨M_2, eM_2, hf⟩ := lt_some hf
  refine g_puti X w fp_X11_139 KD_80 FR_80_0 (inL rfl) dX11_steps_2 (fun H locs w_M_2 => ?_)
  rw [← eM_2] at w_M_2
  refine lv_aload_n hx hb dX11_steps_5 rfl (lv_at hl 0 rfl) ?_
  refine g_geti X w_M_2 fg_X11_109 KD_80 FR_80_48 dX11_steps_6 ?_
  exact HR (M_2 80 48) M_2 _ _ _ _ (Option.some.inj hf).symm (w_M_2.2.2 _ _) w_M_2 dX11_steps_9
set_option maxRecDepth 100000 in
set_option maxHeartbeats 4000000 in
theorem k_X11_steps {l : Launch} {D : va_G} {aC : Nat → ClassId} {ad : Nat → Nat} {sg : SG} (hi : Inj ad)  {M : Mem} (hM : inM M) {r : Int} {M' : Mem} (hf : f_X11_steps M = some (r, M')) : MetI l D aC ad sg yX11_steps cX11_steps 1 (some .int) rm_X11_steps 0 0 [.ref (ad 80)] M r M' := by
  refine MetI.ofI (by decide +kernel) (nle rfl) hi hM (fun p e s m args below meth c Q H0 ls X hl w hret => ?_)
  exact b_X11_steps_0 X  (fun r1 M1 H locs pc ls eo hP w dg => by cases eo; exact hret H locs pc ls hP w dg) M hf hl w
set_option maxRecDepth 100000 in
set_option maxHeartbeats 4000000 in
theorem b_X11_looks_s10 (X : CX p s m args c cX11_looks 2 RX11 D aC ad sg A H0) {o : (Int × Mem) ⊕ (Int × Mem)} (HC : ∀ (y1 : Int) (M1 : Mem) (H : Heap) (locs : List Loc) (ls : Array Slot), o = .inl (y1, M1) → inR y1 → lv_has ls 2 [(0, .ref (ad 80)), (1, .int (i2 y1))] → WS D aC ad A H0 M1 H locs → W p l e rm_X11_looks s m args below meth c H locs 0 0 Q (F0 m 10 ls [])) (HE : ∀ (y1 : Int) (M1 : Mem) (H : Heap) (locs : List Loc) (ls : Array Slot), o = .inr (y1, M1) → inR y1 → lv_has ls 2 [(0, .ref (ad 80)), (1, .int (i2 y1))] → WS D aC ad A H0 M1 H locs → W p l e rm_X11_looks s m args below meth c H locs 0 0 Q (F0 m 36 ls [])) (v1 : Int) (hv1 : inR v1) (M : Mem) (hf : f_X11_looks_s10 v1 M = some o) {H : Heap} {locs : List Loc} {ls : Array Slot} (hl : lv_has ls 2 [(0, .ref (ad 80)), (1, .int (i2 v1))]) (w : WS D aC ad A H0 M H locs) : W p l e rm_X11_looks s m args below meth c H locs 0 0 Q (F0 m 10 ls []) := by
  have hx := X.1.1
  have hb := X.1.2.1
  unfold f_X11_looks_s10 at hf
  refine lv_iload_n hx hb dX11_looks_10 rfl (lv_at hl 1 rfl) ?_
  refine lv_aload_n hx hb dX11_looks_11 rfl (lv_at hl 0 rfl) ?_
  refine g_geti X w fg_X11_142 KD_80 FR_80_1 dX11_looks_12 ?_
  refine g_icmp_ge (tgt := 36) X hv1 (w.2.2 _ _) dX11_looks_15 (by decide) (fun cd => ?_) (fun cd => ?_)
  · replace hf := ite_t cd hf
    exact HE v1 M _ _ _ (Option.some.inj hf).symm hv1 hl w
  · replace hf := ite_f cd hf
    refine lv_aload_n hx hb dX11_looks_18 rfl (lv_at hl 0 rfl) ?_
    refine g_getr X w fg_X11_100 KD_80 FR_80_41 dX11_looks_19 ?_
    refine lv_iload_n hx hb dX11_looks_22 rfl (lv_at hl 1 rfl) ?_
    refine lv_aload_n hx hb dX11_looks_23 rfl (lv_at hl 0 rfl) ?_
    refine g_getr X w fg_X11_106 KD_80 FR_80_47 dX11_looks_24 ?_
    refine lv_iload_n hx hb dX11_looks_27 rfl (lv_at hl 1 rfl) ?_
    obtain ⟨hg, hf⟩ := gd_some hf
    refine g_iald X w KD_110 hv1 hg dX11_looks_28 ?_
    obtain ⟨hg_2, hf⟩ := gd_some hf
    obtain ⟨M_2, eM_2, hf⟩ := lt_some hf
    refine g_iast X w KD_108 hv1 hg_2 (w.2.2 _ _) dX11_looks_29 (fun H locs w_M_2 => ?_)
    rw [← eM_2] at w_M_2
    obtain ⟨v1_2, ev1_2, hf⟩ := lt_some hf
    have hv1_2 : inR v1_2 := inR_of ev1_2 (inR_wrap _)
    refine lv_iinc (v := i2 v1_2) (lv' := [(1, .int (i2 v1_2)), (0, .ref (ad 80))]) hx hb dX11_looks_30 hl (k := 1) rfl (by rw [ev1_2]; exact i2_add _ _) (by decide) rfl (fun ls hl => ?_)
    refine lv_goto (tgt := 10) hx hb dX11_looks_33 (by decide) ?_
    exact HC v1_2 M_2 _ _ _ (Option.some.inj hf).symm hv1_2 (lv_sub hl [1, 0] rfl) w_M_2
set_option maxRecDepth 100000 in
set_option maxHeartbeats 4000000 in
theorem l_X11_looks_10 (X : CX p s m args c cX11_looks 2 RX11 D aC ad sg A H0) {out : Int × Mem} (HE : ∀ (y1 : Int) (M1 : Mem) (H : Heap) (locs : List Loc) (ls : Array Slot), out = (y1, M1) → inR y1 → lv_has ls 2 [(0, .ref (ad 80)), (1, .int (i2 y1))] → WS D aC ad A H0 M1 H locs → W p l e rm_X11_looks s m args below meth c H locs 0 0 Q (F0 m 36 ls [])) : ∀ (n : Nat) (v1 : Int) (M : Mem), whl (fun s => f_X11_looks_s10 s.1 s.2) n (v1, M) = some out → inR v1 → ∀ {H : Heap} {locs : List Loc} {ls : Array Slot}, lv_has ls 2 [(0, .ref (ad 80)), (1, .int (i2 v1))] → WS D aC ad A H0 M H locs → W p l e rm_X11_looks s m args below meth c H locs 0 0 Q (F0 m 10 ls []) := by
  intro n
  induction n with
  | zero => intro v1 M hf; exact (whl_zero hf).elim
  | succ n ih =>
    intro v1 M hf hv1 H locs ls hl w
    obtain ⟨o, hf, hk1, hk2⟩ := whl_step hf
    exact b_X11_looks_s10 X  (fun y1 M1 H locs ls eo hy1 hl w => ih y1 M1 (hk1 _ eo) hy1 hl w) (fun y1 M1 H locs ls eo hy1 hl w => HE y1 M1 H locs ls (hk2 _ eo).symm hy1 hl w) v1 hv1 M hf hl w
set_option maxRecDepth 100000 in
set_option maxHeartbeats 4000000 in
theorem b_X11_looks_j36 (X : CX p s m args c cX11_looks 2 RX11 D aC ad sg A H0) {o : Mem} (HR : ∀ (M1 : Mem) (H : Heap) (locs : List Loc) (pc : Nat) (ls : Array Slot), o = M1 → WS D aC ad A H0 M1 H locs → decode cX11_looks pc = .ok (.return_, 1) → W p l e rm_X11_looks s m args below meth c H locs 0 0 Q (F0 m pc ls [])) (M : Mem) (hf : f_X11_looks_j36 M = some o) {H : Heap} {locs : List Loc} {ls : Array Slot} (hl : lv_has ls 2 []) (w : WS D aC ad A H0 M H locs) : W p l e rm_X11_looks s m args below meth c H locs 0 0 Q (F0 m 36 ls []) := by
  have hx := X.1.1
  have hb := X.1.2.1
  unfold f_X11_looks_j36 at hf
  exact HR M _ _ _ _ (Option.some.inj hf).symm w dX11_looks_36
set_option maxRecDepth 100000 in
set_option maxHeartbeats 4000000 in
theorem b_X11_looks_0 (X : CX p s m args c cX11_looks 2 RX11 D aC ad sg A H0) {o : Mem} (HR : ∀ (M1 : Mem) (H : Heap) (locs : List Loc) (pc : Nat) (ls : Array Slot), o = M1 → WS D aC ad A H0 M1 H locs → decode cX11_looks pc = .ok (.return_, 1) → W p l e rm_X11_looks s m args below meth c H locs 0 0 Q (F0 m pc ls [])) (M : Mem) (hf : f_X11_looks M = some o) {H : Heap} {locs : List Loc} {ls : Array Slot} (hl : lv_has ls 2 [(0, .ref (ad 80))]) (w : WS D aC ad A H0 M H locs) : W p l e rm_X11_looks s m args below meth c H locs 0 0 Q (F0 m 0 ls []) := by
  have hx := X.1.1
  have hb := X.1.2.1
  unfold f_X11_looks at hf
  refine lv_aload_n hx hb dX11_looks_0 rfl (lv_at hl 0 rfl) ?_
  refine lv_aload_n hx hb dX11_looks_1 rfl (lv_at hl 0 rfl) ?_
  refine g_geti X w fg_X11_153 KD_80 FR_80_14 dX11_looks_2 ?_
  obtain ⟨M_2, hc, hf⟩ := obn_some hf
  refine g_cvv (As := [.int (i2 (M 80 14))]) (rest := []) X w (k_X11_learns X.2.2.1 (M 80 14) (w.2.2 _ _) w.2.2 hc) lk_X11_322 cl_11 KD_80 ⟨rfl, rfl⟩ ⟨nle rfl, nle rfl⟩ ⟨nle rfl, nle rfl⟩ hl.1 rfl (nle rfl) dX11_looks_5 (fun H locs w_M_2 => ?_)
  refine g_iconst X dX11_looks_8 ?_
  refine g_istn (v := 0) (lv' := [(1, .int (i2 0)), (0, .ref (ad 80))]) X rfl dX11_looks_9 rfl hl (by decide) rfl (fun ls hl => ?_)
  obtain ⟨q, hq, h1⟩ := obn_some hf
  exact l_X11_looks_10 X  (out := q) (fun y1 M1 H locs ls eq hy1 hl w => b_X11_looks_j36 X  HR M1 (by subst eq; exact h1) (lv_sub hl [] rfl) w)  FU 0 M_2 hq (inL rfl) (lv_sub hl [1, 0] rfl) w_M_2
set_option maxRecDepth 100000 in
set_option maxHeartbeats 4000000 in
theorem k_X11_looks {l : Launch} {D : va_G} {aC : Nat → ClassId} {ad : Nat → Nat} {sg : SG} (hi : Inj ad)  {M : Mem} (hM : inM M) {M' : Mem} (hf : f_X11_looks M = some M') : MetV l D aC ad sg yX11_looks cX11_looks 2 rm_X11_looks 0 0 [.ref (ad 80)] M M' := by
  refine MetV.of (by decide +kernel) (nle rfl) hi hM (fun p e s m args below meth c Q H0 ls X hl w hret => ?_)
  exact b_X11_looks_0 X  (fun M1 H locs pc ls eo w dg => by cases eo; exact hret H locs pc ls w dg) M hf hl w
set_option maxRecDepth 100000 in
set_option maxHeartbeats 4000000 in
theorem b_X11_late_0 (X : CX p s m args c cX11_late 3 RX11 D aC ad sg A H0) {o : Int × Mem} (HR : ∀ (r : Int) (M1 : Mem) (H : Heap) (locs : List Loc) (pc : Nat) (ls : Array Slot), o = (r, M1) → inR r → WS D aC ad A H0 M1 H locs → decode cX11_late pc = .ok (.ireturn, 1) → W p l e rm_X11_late s m args below meth c H locs 0 0 Q (F0 m pc ls [.int (i2 r)])) (p1 : Int) (hp1 : inR p1) (M : Mem) (hf : f_X11_late p1 M = some o) {H : Heap} {locs : List Loc} {ls : Array Slot} (hl : lv_has ls 3 [(0, .ref (ad 80)), (1, .int (i2 p1))]) (w : WS D aC ad A H0 M H locs) : W p l e rm_X11_late s m args below meth c H locs 0 0 Q (F0 m 0 ls []) := by
  have hx := X.1.1
  have hb := X.1.2.1
  unfold f_X11_late at hf
  refine lv_aload_n hx hb dX11_late_0 rfl (lv_at hl 0 rfl) ?_
  refine g_iconst X dX11_late_1 ?_
  obtain ⟨M_2, eM_2, hf⟩ := lt_some hf
  refine g_puti X w fp_X11_139 KD_80 FR_80_0 (inL rfl) dX11_late_2 (fun H locs w_M_2 => ?_)
  rw [← eM_2] at w_M_2
  refine lv_aload_n hx hb dX11_late_5 rfl (lv_at hl 0 rfl) ?_
  refine lv_iload_n hx hb dX11_late_6 rfl (lv_at hl 1 rfl) ?_
  obtain ⟨r, hc, hf⟩ := obn_some hf
  refine g_cvi (As := [.int (i2 p1)]) (rest := []) X w_M_2 (k_X11_isChild X.2.2.1 p1 hp1 w_M_2.2.2 hc) lk_X11_149 cl_11 KD_80 ⟨rfl, rfl⟩ ⟨nle rfl, nle rfl⟩ ⟨nle rfl, nle rfl⟩ hl.1 rfl (nle rfl) dX11_late_7 (fun hr H locs w_M_2 => ?_)
  refine g_if_eq (tgt := 23) X hr dX11_late_10 (by decide) (fun cd => ?_) (fun cd => ?_)
  · replace hf := ite_t cd hf
    refine g_iconst X dX11_late_23 ?_
    exact HR (-1) M_2 _ _ _ _ (Option.some.inj hf).symm (inL rfl) w_M_2 dX11_late_24
  · replace hf := ite_f cd hf
    refine lv_aload_n hx hb dX11_late_13 rfl (lv_at hl 0 rfl) ?_
    refine g_getr X w_M_2 fg_X11_106 KD_80 FR_80_47 dX11_late_14 ?_
    refine lv_iload_n hx hb dX11_late_17 rfl (lv_at hl 1 rfl) ?_
    obtain ⟨hg, hf⟩ := gd_some hf
    refine g_iald X w_M_2 KD_110 hp1 hg dX11_late_18 ?_
    refine g_iconst X dX11_late_19 ?_
    refine g_icmp_eq (tgt := 25) X (w_M_2.2.2 _ _) (inL rfl) dX11_late_20 (by decide) (fun cd_2 => ?_) (fun cd_2 => ?_)
    · replace hf := ite_t cd_2 hf
      refine lv_aload_n hx hb dX11_late_25 rfl (lv_at hl 0 rfl) ?_
      obtain ⟨M_3, hc, hf⟩ := obn_some hf
      refine g_cvv (As := []) (rest := []) X w_M_2 (k_X11_looks X.2.2.1  w_M_2.2.2 hc) lk_X11_381 cl_11 KD_80 ⟨rfl, rfl⟩ ⟨nle rfl, nle rfl⟩ ⟨nle rfl, nle rfl⟩ hl.1 rfl (nle rfl) dX11_late_26 (fun H locs w_M_3 => ?_)
      refine lv_aload_n hx hb dX11_late_29 rfl (lv_at hl 0 rfl) ?_
      refine lv_iload_n hx hb dX11_late_30 rfl (lv_at hl 1 rfl) ?_
      refine g_iconst X dX11_late_31 ?_
      obtain ⟨r_2, M_4, hc, hf⟩ := bnd_some hf
      refine g_cvi (As := [.int (i2 p1), .int (i2 1)]) (rest := []) X w_M_3 (k_X11_softest X.2.2.1 p1 hp1 1 (inL rfl) w_M_3.2.2 hc) lk_X11_367 cl_11 KD_80 ⟨rfl, rfl⟩ ⟨nle rfl, nle rfl⟩ ⟨nle rfl, nle rfl⟩ hl.1 rfl (nle rfl) dX11_late_32 (fun hr_2 H locs w_M_4 => ?_)
      refine g_istn (v := r_2) (lv' := [(2, .int (i2 r_2)), (0, .ref (ad 80)), (1, .int (i2 p1))]) X rfl dX11_late_35 rfl hl (by decide) rfl (fun ls hl => ?_)
      refine lv_iload_n hx hb dX11_late_36 rfl (lv_at hl 0 rfl) ?_
      refine g_iconst X dX11_late_37 ?_
      refine g_icmp_ne (tgt := 44) X hr_2 (inL rfl) dX11_late_38 (by decide) (fun cd_3 => ?_) (fun cd_3 => ?_)
      · replace hf := ite_f cd_3 hf
        refine lv_aload_n hx hb dX11_late_44 rfl (lv_at hl 1 rfl) ?_
        refine g_getr X w_M_4 fg_X11_106 KD_80 FR_80_47 dX11_late_45 ?_
        refine lv_iload_n hx hb dX11_late_48 rfl (lv_at hl 2 rfl) ?_
        refine lv_iload_n hx hb dX11_late_49 rfl (lv_at hl 0 rfl) ?_
        obtain ⟨hg_2, hf⟩ := gd_some hf
        obtain ⟨M_5, eM_5, hf⟩ := lt_some hf
        refine g_iast X w_M_4 KD_110 hp1 hg_2 hr_2 dX11_late_50 (fun H locs w_M_5 => ?_)
        rw [← eM_5] at w_M_5
        refine lv_iload_n hx hb dX11_late_51 rfl (lv_at hl 0 rfl) ?_
        exact HR r_2 M_5 _ _ _ _ (Option.some.inj hf).symm hr_2 w_M_5 dX11_late_52
      · replace hf := ite_t cd_3 hf
        refine g_bipush X dX11_late_41 (by decide) ?_
        exact HR (-2) M_4 _ _ _ _ (Option.some.inj hf).symm (inL rfl) w_M_4 dX11_late_43
    · replace hf := ite_f cd_2 hf
      refine g_iconst X dX11_late_23 ?_
      exact HR (-1) M_2 _ _ _ _ (Option.some.inj hf).symm (inL rfl) w_M_2 dX11_late_24
set_option maxRecDepth 100000 in
set_option maxHeartbeats 4000000 in
theorem k_X11_late {l : Launch} {D : va_G} {aC : Nat → ClassId} {ad : Nat → Nat} {sg : SG} (hi : Inj ad) (p1 : Int) (hp1 : inR p1) {M : Mem} (hM : inM M) {r : Int} {M' : Mem} (hf : f_X11_late p1 M = some (r, M')) : MetI l D aC ad sg yX11_late cX11_late 3 (some .int) rm_X11_late 0 0 [.ref (ad 80), .int (i2 p1)] M r M' := by
  refine MetI.ofI (by decide +kernel) (nle rfl) hi hM (fun p e s m args below meth c Q H0 ls X hl w hret => ?_)
  exact b_X11_late_0 X  (fun r1 M1 H locs pc ls eo hP w dg => by cases eo; exact hret H locs pc ls hP w dg) p1 hp1 M hf hl w
set_option maxRecDepth 100000 in
set_option maxHeartbeats 4000000 in
theorem b_X11_listed_s4 (X : CX p s m args c cX11_listed 3 RX11 D aC ad sg A H0) {M : Mem} {o : (Int × Int) ⊕ (Int × Int)} (HC : ∀ (y1 : Int) (y2 : Int) (H : Heap) (locs : List Loc) (ls : Array Slot), o = .inl (y1, y2) → inR y1 → inR y2 → lv_has ls 3 [(0, .ref (ad 80)), (1, .int (i2 y1)), (2, .int (i2 y2))] → WS D aC ad A H0 M H locs → W p l e rm_X11_listed s m args below meth c H locs 0 0 Q (F0 m 4 ls [])) (HE : ∀ (y1 : Int) (y2 : Int) (H : Heap) (locs : List Loc) (ls : Array Slot), o = .inr (y1, y2) → inR y1 → inR y2 → lv_has ls 3 [(0, .ref (ad 80)), (1, .int (i2 y1)), (2, .int (i2 y2))] → WS D aC ad A H0 M H locs → W p l e rm_X11_listed s m args below meth c H locs 0 0 Q (F0 m 36 ls [])) (v1 : Int) (hv1 : inR v1) (v2 : Int) (hv2 : inR v2) (hf : f_X11_listed_s4 M v1 v2 = some o) {H : Heap} {locs : List Loc} {ls : Array Slot} (hl : lv_has ls 3 [(0, .ref (ad 80)), (1, .int (i2 v1)), (2, .int (i2 v2))]) (w : WS D aC ad A H0 M H locs) : W p l e rm_X11_listed s m args below meth c H locs 0 0 Q (F0 m 4 ls []) := by
  have hx := X.1.1
  have hb := X.1.2.1
  unfold f_X11_listed_s4 at hf
  refine lv_iload_n hx hb dX11_listed_4 rfl (lv_at hl 2 rfl) ?_
  refine lv_aload_n hx hb dX11_listed_5 rfl (lv_at hl 0 rfl) ?_
  refine g_geti X w fg_X11_142 KD_80 FR_80_1 dX11_listed_6 ?_
  refine g_icmp_ge (tgt := 36) X hv2 (w.2.2 _ _) dX11_listed_9 (by decide) (fun cd => ?_) (fun cd => ?_)
  · replace hf := ite_t cd hf
    exact HE v1 v2 _ _ _ (Option.some.inj hf).symm hv1 hv2 hl w
  · replace hf := ite_f cd hf
    refine lv_iload_n hx hb dX11_listed_12 rfl (lv_at hl 1 rfl) ?_
    refine lv_aload_n hx hb dX11_listed_13 rfl (lv_at hl 0 rfl) ?_
    refine g_getr X w fg_X11_106 KD_80 FR_80_47 dX11_listed_14 ?_
    refine lv_iload_n hx hb dX11_listed_17 rfl (lv_at hl 2 rfl) ?_
    obtain ⟨hg, hf⟩ := gd_some hf
    refine g_iald X w KD_110 hv2 hg dX11_listed_18 ?_
    refine g_iconst X dX11_listed_19 ?_
    refine g_icmp_ne (tgt := 27) X (w.2.2 _ _) (inL rfl) dX11_listed_20 (by decide) (fun cd_2 => ?_) (fun cd_2 => ?_)
    · replace hf := ite_f cd_2 hf
      refine g_iconst X dX11_listed_27 ?_
      refine g_iadd X dX11_listed_28 ?_
      obtain ⟨v1_2, ev1_2, hf⟩ := lt_some hf
      have hv1_2 : inR v1_2 := inR_of ev1_2 (inR_wrap _)
      refine g_istn (v := v1_2) (lv' := [(1, .int (i2 v1_2)), (0, .ref (ad 80)), (2, .int (i2 v2))]) X ev1_2 dX11_listed_29 rfl hl (by decide) rfl (fun ls hl => ?_)
      obtain ⟨v2_2, ev2_2, hf⟩ := lt_some hf
      have hv2_2 : inR v2_2 := inR_of ev2_2 (inR_wrap _)
      refine lv_iinc (v := i2 v2_2) (lv' := [(2, .int (i2 v2_2)), (1, .int (i2 v1_2)), (0, .ref (ad 80))]) hx hb dX11_listed_30 hl (k := 2) rfl (by rw [ev2_2]; exact i2_add _ _) (by decide) rfl (fun ls hl => ?_)
      refine lv_goto (tgt := 4) hx hb dX11_listed_33 (by decide) ?_
      exact HC v1_2 v2_2 _ _ _ (Option.some.inj hf).symm hv1_2 hv2_2 (lv_sub hl [2, 1, 0] rfl) w
    · replace hf := ite_t cd_2 hf
      refine g_iconst X dX11_listed_23 ?_
      refine lv_goto (tgt := 28) hx hb dX11_listed_24 (by decide) ?_
      refine g_iadd X dX11_listed_28 ?_
      obtain ⟨v1_3, ev1_3, hf⟩ := lt_some hf
      have hv1_3 : inR v1_3 := inR_of ev1_3 (inR_wrap _)
      refine g_istn (v := v1_3) (lv' := [(1, .int (i2 v1_3)), (0, .ref (ad 80)), (2, .int (i2 v2))]) X ev1_3 dX11_listed_29 rfl hl (by decide) rfl (fun ls hl => ?_)
      obtain ⟨v2_3, ev2_3, hf⟩ := lt_some hf
      have hv2_3 : inR v2_3 := inR_of ev2_3 (inR_wrap _)
      refine lv_iinc (v := i2 v2_3) (lv' := [(2, .int (i2 v2_3)), (1, .int (i2 v1_3)), (0, .ref (ad 80))]) hx hb dX11_listed_30 hl (k := 2) rfl (by rw [ev2_3]; exact i2_add _ _) (by decide) rfl (fun ls hl => ?_)
      refine lv_goto (tgt := 4) hx hb dX11_listed_33 (by decide) ?_
      exact HC v1_3 v2_3 _ _ _ (Option.some.inj hf).symm hv1_3 hv2_3 (lv_sub hl [2, 1, 0] rfl) w
set_option maxRecDepth 100000 in
set_option maxHeartbeats 4000000 in
theorem l_X11_listed_4 (X : CX p s m args c cX11_listed 3 RX11 D aC ad sg A H0) {M : Mem} {out : Int × Int} (HE : ∀ (y1 : Int) (y2 : Int) (H : Heap) (locs : List Loc) (ls : Array Slot), out = (y1, y2) → inR y1 → inR y2 → lv_has ls 3 [(0, .ref (ad 80)), (1, .int (i2 y1)), (2, .int (i2 y2))] → WS D aC ad A H0 M H locs → W p l e rm_X11_listed s m args below meth c H locs 0 0 Q (F0 m 36 ls [])) : ∀ (n : Nat) (v1 : Int) (v2 : Int), whl (fun s => f_X11_listed_s4 M s.1 s.2) n (v1, v2) = some out → inR v1 → inR v2 → ∀ {H : Heap} {locs : List Loc} {ls : Array Slot}, lv_has ls 3 [(0, .ref (ad 80)), (1, .int (i2 v1)), (2, .int (i2 v2))] → WS D aC ad A H0 M H locs → W p l e rm_X11_listed s m args below meth c H locs 0 0 Q (F0 m 4 ls []) := by
  intro n
  induction n with
  | zero => intro v1 v2 hf; exact (whl_zero hf).elim
  | succ n ih =>
    intro v1 v2 hf hv1 hv2 H locs ls hl w
    obtain ⟨o, hf, hk1, hk2⟩ := whl_step hf
    exact b_X11_listed_s4 X  (fun y1 y2 H locs ls eo hy1 hy2 hl w => ih y1 y2 (hk1 _ eo) hy1 hy2 hl w) (fun y1 y2 H locs ls eo hy1 hy2 hl w => HE y1 y2 H locs ls (hk2 _ eo).symm hy1 hy2 hl w) v1 hv1 v2 hv2 hf hl w
set_option maxRecDepth 100000 in
set_option maxHeartbeats 4000000 in
theorem b_X11_listed_j36 (X : CX p s m args c cX11_listed 3 RX11 D aC ad sg A H0) {M : Mem} {o : Int} (HR : ∀ (r : Int) (H : Heap) (locs : List Loc) (pc : Nat) (ls : Array Slot), o = r → inR r → WS D aC ad A H0 M H locs → decode cX11_listed pc = .ok (.ireturn, 1) → W p l e rm_X11_listed s m args below meth c H locs 0 0 Q (F0 m pc ls [.int (i2 r)])) (v1 : Int) (hv1 : inR v1) (hf : f_X11_listed_j36 v1 M = some o) {H : Heap} {locs : List Loc} {ls : Array Slot} (hl : lv_has ls 3 [(1, .int (i2 v1))]) (w : WS D aC ad A H0 M H locs) : W p l e rm_X11_listed s m args below meth c H locs 0 0 Q (F0 m 36 ls []) := by
  have hx := X.1.1
  have hb := X.1.2.1
  unfold f_X11_listed_j36 at hf
  refine lv_iload_n hx hb dX11_listed_36 rfl (lv_at hl 0 rfl) ?_
  exact HR v1 _ _ _ _ (Option.some.inj hf).symm hv1 w dX11_listed_37
set_option maxRecDepth 100000 in
set_option maxHeartbeats 4000000 in
theorem b_X11_listed_0 (X : CX p s m args c cX11_listed 3 RX11 D aC ad sg A H0) {M : Mem} {o : Int} (HR : ∀ (r : Int) (H : Heap) (locs : List Loc) (pc : Nat) (ls : Array Slot), o = r → inR r → WS D aC ad A H0 M H locs → decode cX11_listed pc = .ok (.ireturn, 1) → W p l e rm_X11_listed s m args below meth c H locs 0 0 Q (F0 m pc ls [.int (i2 r)])) (hf : f_X11_listed M = some o) {H : Heap} {locs : List Loc} {ls : Array Slot} (hl : lv_has ls 3 [(0, .ref (ad 80))]) (w : WS D aC ad A H0 M H locs) : W p l e rm_X11_listed s m args below meth c H locs 0 0 Q (F0 m 0 ls []) := by
  have hx := X.1.1
  have hb := X.1.2.1
  unfold f_X11_listed at hf
  refine g_iconst X dX11_listed_0 ?_
  refine g_istn (v := 0) (lv' := [(1, .int (i2 0)), (0, .ref (ad 80))]) X rfl dX11_listed_1 rfl hl (by decide) rfl (fun ls hl => ?_)
  refine g_iconst X dX11_listed_2 ?_
  refine g_istn (v := 0) (lv' := [(2, .int (i2 0)), (1, .int (i2 0)), (0, .ref (ad 80))]) X rfl dX11_listed_3 rfl hl (by decide) rfl (fun ls hl => ?_)
  obtain ⟨q, hq, h1⟩ := obn_some hf
  exact l_X11_listed_4 X  (out := q) (fun y1 y2 H locs ls eq hy1 hy2 hl w => b_X11_listed_j36 X  HR y1 hy1 (by subst eq; exact h1) (lv_sub hl [1] rfl) w)  FU 0 0 hq (inL rfl) (inL rfl) (lv_sub hl [2, 1, 0] rfl) w
set_option maxRecDepth 100000 in
set_option maxHeartbeats 4000000 in
theorem k_X11_listed {l : Launch} {D : va_G} {aC : Nat → ClassId} {ad : Nat → Nat} {sg : SG} (hi : Inj ad)  {M : Mem} (hM : inM M) {r : Int} (hf : f_X11_listed M = some r) : MetI l D aC ad sg yX11_listed cX11_listed 3 (some .int) rm_X11_listed 0 0 [.ref (ad 80)] M r M := by
  refine MetI.ofI (by decide +kernel) (nle rfl) hi hM (fun p e s m args below meth c Q H0 ls X hl w hret => ?_)
  exact b_X11_listed_0 X  (fun r1 H locs pc ls eo hP w dg => by cases eo; exact hret H locs pc ls hP w dg)  hf hl w
set_option maxRecDepth 100000 in
set_option maxHeartbeats 4000000 in
theorem b_X11_change_s37 (X : CX p s m args c cX11_change 4 RX11 D aC ad sg A H0) {o : (Int × Mem) ⊕ (Int × Mem)} (HC : ∀ (y1 : Int) (M1 : Mem) (H : Heap) (locs : List Loc) (ls : Array Slot), o = .inl (y1, M1) → inR y1 → lv_has ls 4 [(0, .ref (ad 80)), (1, .int (i2 y1))] → WS D aC ad A H0 M1 H locs → W p l e rm_X11_change s m args below meth c H locs 0 0 Q (F0 m 37 ls [])) (HE : ∀ (y1 : Int) (M1 : Mem) (H : Heap) (locs : List Loc) (ls : Array Slot), o = .inr (y1, M1) → inR y1 → lv_has ls 4 [(0, .ref (ad 80)), (1, .int (i2 y1))] → WS D aC ad A H0 M1 H locs → W p l e rm_X11_change s m args below meth c H locs 0 0 Q (F0 m 72 ls [])) (v1 : Int) (hv1 : inR v1) (M : Mem) (hf : f_X11_change_s37 v1 M = some o) {H : Heap} {locs : List Loc} {ls : Array Slot} (hl : lv_has ls 4 [(0, .ref (ad 80)), (1, .int (i2 v1))]) (w : WS D aC ad A H0 M H locs) : W p l e rm_X11_change s m args below meth c H locs 0 0 Q (F0 m 37 ls []) := by
  have hx := X.1.1
  have hb := X.1.2.1
  unfold f_X11_change_s37 at hf
  refine lv_iload_n hx hb dX11_change_37 rfl (lv_at hl 1 rfl) ?_
  refine lv_aload_n hx hb dX11_change_38 rfl (lv_at hl 0 rfl) ?_
  refine g_geti X w fg_X11_142 KD_80 FR_80_1 dX11_change_39 ?_
  refine g_icmp_ge (tgt := 72) X hv1 (w.2.2 _ _) dX11_change_42 (by decide) (fun cd => ?_) (fun cd => ?_)
  · replace hf := ite_t cd hf
    exact HE v1 M _ _ _ (Option.some.inj hf).symm hv1 hl w
  · replace hf := ite_f cd hf
    refine lv_aload_n hx hb dX11_change_45 rfl (lv_at hl 0 rfl) ?_
    refine g_getr X w fg_X11_100 KD_80 FR_80_41 dX11_change_46 ?_
    refine lv_iload_n hx hb dX11_change_49 rfl (lv_at hl 1 rfl) ?_
    refine lv_aload_n hx hb dX11_change_50 rfl (lv_at hl 0 rfl) ?_
    refine g_getr X w fg_X11_106 KD_80 FR_80_47 dX11_change_51 ?_
    refine lv_iload_n hx hb dX11_change_54 rfl (lv_at hl 1 rfl) ?_
    obtain ⟨hg, hf⟩ := gd_some hf
    refine g_iald X w KD_110 hv1 hg dX11_change_55 ?_
    refine g_iconst X dX11_change_56 ?_
    refine g_icmp_ne (tgt := 64) X (w.2.2 _ _) (inL rfl) dX11_change_57 (by decide) (fun cd_2 => ?_) (fun cd_2 => ?_)
    · replace hf := ite_f cd_2 hf
      refine g_iconst X dX11_change_64 ?_
      obtain ⟨hg_2, hf⟩ := gd_some hf
      obtain ⟨M_2, eM_2, hf⟩ := lt_some hf
      refine g_iast X w KD_108 hv1 hg_2 (inL rfl) dX11_change_65 (fun H locs w_M_2 => ?_)
      rw [← eM_2] at w_M_2
      obtain ⟨v1_2, ev1_2, hf⟩ := lt_some hf
      have hv1_2 : inR v1_2 := inR_of ev1_2 (inR_wrap _)
      refine lv_iinc (v := i2 v1_2) (lv' := [(1, .int (i2 v1_2)), (0, .ref (ad 80))]) hx hb dX11_change_66 hl (k := 1) rfl (by rw [ev1_2]; exact i2_add _ _) (by decide) rfl (fun ls hl => ?_)
      refine lv_goto (tgt := 37) hx hb dX11_change_69 (by decide) ?_
      exact HC v1_2 M_2 _ _ _ (Option.some.inj hf).symm hv1_2 (lv_sub hl [1, 0] rfl) w_M_2
    · replace hf := ite_t cd_2 hf
      refine g_iconst X dX11_change_60 ?_
      refine lv_goto (tgt := 65) hx hb dX11_change_61 (by decide) ?_
      obtain ⟨hg_3, hf⟩ := gd_some hf
      obtain ⟨M_3, eM_3, hf⟩ := lt_some hf
      refine g_iast X w KD_108 hv1 hg_3 (inL rfl) dX11_change_65 (fun H locs w_M_3 => ?_)
      rw [← eM_3] at w_M_3
      obtain ⟨v1_3, ev1_3, hf⟩ := lt_some hf
      have hv1_3 : inR v1_3 := inR_of ev1_3 (inR_wrap _)
      refine lv_iinc (v := i2 v1_3) (lv' := [(1, .int (i2 v1_3)), (0, .ref (ad 80))]) hx hb dX11_change_66 hl (k := 1) rfl (by rw [ev1_3]; exact i2_add _ _) (by decide) rfl (fun ls hl => ?_)
      refine lv_goto (tgt := 37) hx hb dX11_change_69 (by decide) ?_
      exact HC v1_3 M_3 _ _ _ (Option.some.inj hf).symm hv1_3 (lv_sub hl [1, 0] rfl) w_M_3
set_option maxRecDepth 100000 in
set_option maxHeartbeats 4000000 in
theorem l_X11_change_37 (X : CX p s m args c cX11_change 4 RX11 D aC ad sg A H0) {out : Int × Mem} (HE : ∀ (y1 : Int) (M1 : Mem) (H : Heap) (locs : List Loc) (ls : Array Slot), out = (y1, M1) → inR y1 → lv_has ls 4 [(0, .ref (ad 80)), (1, .int (i2 y1))] → WS D aC ad A H0 M1 H locs → W p l e rm_X11_change s m args below meth c H locs 0 0 Q (F0 m 72 ls [])) : ∀ (n : Nat) (v1 : Int) (M : Mem), whl (fun s => f_X11_change_s37 s.1 s.2) n (v1, M) = some out → inR v1 → ∀ {H : Heap} {locs : List Loc} {ls : Array Slot}, lv_has ls 4 [(0, .ref (ad 80)), (1, .int (i2 v1))] → WS D aC ad A H0 M H locs → W p l e rm_X11_change s m args below meth c H locs 0 0 Q (F0 m 37 ls []) := by
  intro n
  induction n with
  | zero => intro v1 M hf; exact (whl_zero hf).elim
  | succ n ih =>
    intro v1 M hf hv1 H locs ls hl w
    obtain ⟨o, hf, hk1, hk2⟩ := whl_step hf
    exact b_X11_change_s37 X  (fun y1 M1 H locs ls eo hy1 hl w => ih y1 M1 (hk1 _ eo) hy1 hl w) (fun y1 M1 H locs ls eo hy1 hl w => HE y1 M1 H locs ls (hk2 _ eo).symm hy1 hl w) v1 hv1 M hf hl w
set_option maxRecDepth 100000 in
set_option maxHeartbeats 4000000 in
theorem b_X11_change_s90 (X : CX p s m args c cX11_change 4 RX11 D aC ad sg A H0) {M : Mem} {o : (Int × Int) ⊕ (Int × Int)} (HC : ∀ (y1 : Int) (y2 : Int) (H : Heap) (locs : List Loc) (ls : Array Slot), o = .inl (y1, y2) → inR y1 → inR y2 → lv_has ls 4 [(0, .ref (ad 80)), (1, .int (i2 y1)), (2, .int (i2 y2))] → WS D aC ad A H0 M H locs → W p l e rm_X11_change s m args below meth c H locs 0 0 Q (F0 m 90 ls [])) (HE : ∀ (y1 : Int) (y2 : Int) (H : Heap) (locs : List Loc) (ls : Array Slot), o = .inr (y1, y2) → inR y1 → inR y2 → lv_has ls 4 [(0, .ref (ad 80)), (1, .int (i2 y1)), (2, .int (i2 y2))] → WS D aC ad A H0 M H locs → W p l e rm_X11_change s m args below meth c H locs 0 0 Q (F0 m 127 ls [])) (v1 : Int) (hv1 : inR v1) (v2 : Int) (hv2 : inR v2) (hf : f_X11_change_s90 M v1 v2 = some o) {H : Heap} {locs : List Loc} {ls : Array Slot} (hl : lv_has ls 4 [(0, .ref (ad 80)), (1, .int (i2 v1)), (2, .int (i2 v2))]) (w : WS D aC ad A H0 M H locs) : W p l e rm_X11_change s m args below meth c H locs 0 0 Q (F0 m 90 ls []) := by
  have hx := X.1.1
  have hb := X.1.2.1
  unfold f_X11_change_s90 at hf
  refine lv_iload_n hx hb dX11_change_90 rfl (lv_at hl 2 rfl) ?_
  refine lv_aload_n hx hb dX11_change_91 rfl (lv_at hl 0 rfl) ?_
  refine g_geti X w fg_X11_142 KD_80 FR_80_1 dX11_change_92 ?_
  refine g_icmp_ge (tgt := 127) X hv2 (w.2.2 _ _) dX11_change_95 (by decide) (fun cd => ?_) (fun cd => ?_)
  · replace hf := ite_t cd hf
    exact HE v1 v2 _ _ _ (Option.some.inj hf).symm hv1 hv2 hl w
  · replace hf := ite_f cd hf
    refine lv_iload_n hx hb dX11_change_98 rfl (lv_at hl 1 rfl) ?_
    refine lv_aload_n hx hb dX11_change_99 rfl (lv_at hl 0 rfl) ?_
    refine g_getr X w fg_X11_100 KD_80 FR_80_41 dX11_change_100 ?_
    refine lv_iload_n hx hb dX11_change_103 rfl (lv_at hl 2 rfl) ?_
    obtain ⟨hg, hf⟩ := gd_some hf
    refine g_iald X w KD_108 hv2 hg dX11_change_104 ?_
    refine lv_aload_n hx hb dX11_change_105 rfl (lv_at hl 0 rfl) ?_
    refine g_getr X w fg_X11_106 KD_80 FR_80_47 dX11_change_106 ?_
    refine lv_iload_n hx hb dX11_change_109 rfl (lv_at hl 2 rfl) ?_
    obtain ⟨hg_2, hf⟩ := gd_some hf
    refine g_iald X w KD_110 hv2 hg_2 dX11_change_110 ?_
    refine g_icmp_eq (tgt := 118) X (w.2.2 _ _) (w.2.2 _ _) dX11_change_111 (by decide) (fun cd_2 => ?_) (fun cd_2 => ?_)
    · replace hf := ite_t cd_2 hf
      refine g_iconst X dX11_change_118 ?_
      refine g_iadd X dX11_change_119 ?_
      obtain ⟨v1_2, ev1_2, hf⟩ := lt_some hf
      have hv1_2 : inR v1_2 := inR_of ev1_2 (inR_wrap _)
      refine g_istn (v := v1_2) (lv' := [(1, .int (i2 v1_2)), (0, .ref (ad 80)), (2, .int (i2 v2))]) X ev1_2 dX11_change_120 rfl hl (by decide) rfl (fun ls hl => ?_)
      obtain ⟨v2_2, ev2_2, hf⟩ := lt_some hf
      have hv2_2 : inR v2_2 := inR_of ev2_2 (inR_wrap _)
      refine lv_iinc (v := i2 v2_2) (lv' := [(2, .int (i2 v2_2)), (1, .int (i2 v1_2)), (0, .ref (ad 80))]) hx hb dX11_change_121 hl (k := 2) rfl (by rw [ev2_2]; exact i2_add _ _) (by decide) rfl (fun ls hl => ?_)
      refine lv_goto (tgt := 90) hx hb dX11_change_124 (by decide) ?_
      exact HC v1_2 v2_2 _ _ _ (Option.some.inj hf).symm hv1_2 hv2_2 (lv_sub hl [2, 1, 0] rfl) w
    · replace hf := ite_f cd_2 hf
      refine g_iconst X dX11_change_114 ?_
      refine lv_goto (tgt := 119) hx hb dX11_change_115 (by decide) ?_
      refine g_iadd X dX11_change_119 ?_
      obtain ⟨v1_3, ev1_3, hf⟩ := lt_some hf
      have hv1_3 : inR v1_3 := inR_of ev1_3 (inR_wrap _)
      refine g_istn (v := v1_3) (lv' := [(1, .int (i2 v1_3)), (0, .ref (ad 80)), (2, .int (i2 v2))]) X ev1_3 dX11_change_120 rfl hl (by decide) rfl (fun ls hl => ?_)
      obtain ⟨v2_3, ev2_3, hf⟩ := lt_some hf
      have hv2_3 : inR v2_3 := inR_of ev2_3 (inR_wrap _)
      refine lv_iinc (v := i2 v2_3) (lv' := [(2, .int (i2 v2_3)), (1, .int (i2 v1_3)), (0, .ref (ad 80))]) hx hb dX11_change_121 hl (k := 2) rfl (by rw [ev2_3]; exact i2_add _ _) (by decide) rfl (fun ls hl => ?_)
      refine lv_goto (tgt := 90) hx hb dX11_change_124 (by decide) ?_
      exact HC v1_3 v2_3 _ _ _ (Option.some.inj hf).symm hv1_3 hv2_3 (lv_sub hl [2, 1, 0] rfl) w
set_option maxRecDepth 100000 in
set_option maxHeartbeats 4000000 in
theorem l_X11_change_90 (X : CX p s m args c cX11_change 4 RX11 D aC ad sg A H0) {M : Mem} {out : Int × Int} (HE : ∀ (y1 : Int) (y2 : Int) (H : Heap) (locs : List Loc) (ls : Array Slot), out = (y1, y2) → inR y1 → inR y2 → lv_has ls 4 [(0, .ref (ad 80)), (1, .int (i2 y1)), (2, .int (i2 y2))] → WS D aC ad A H0 M H locs → W p l e rm_X11_change s m args below meth c H locs 0 0 Q (F0 m 127 ls [])) : ∀ (n : Nat) (v1 : Int) (v2 : Int), whl (fun s => f_X11_change_s90 M s.1 s.2) n (v1, v2) = some out → inR v1 → inR v2 → ∀ {H : Heap} {locs : List Loc} {ls : Array Slot}, lv_has ls 4 [(0, .ref (ad 80)), (1, .int (i2 v1)), (2, .int (i2 v2))] → WS D aC ad A H0 M H locs → W p l e rm_X11_change s m args below meth c H locs 0 0 Q (F0 m 90 ls []) := by
  intro n
  induction n with
  | zero => intro v1 v2 hf; exact (whl_zero hf).elim
  | succ n ih =>
    intro v1 v2 hf hv1 hv2 H locs ls hl w
    obtain ⟨o, hf, hk1, hk2⟩ := whl_step hf
    exact b_X11_change_s90 X  (fun y1 y2 H locs ls eo hy1 hy2 hl w => ih y1 y2 (hk1 _ eo) hy1 hy2 hl w) (fun y1 y2 H locs ls eo hy1 hy2 hl w => HE y1 y2 H locs ls (hk2 _ eo).symm hy1 hy2 hl w) v1 hv1 v2 hv2 hf hl w
set_option maxRecDepth 100000 in
set_option maxHeartbeats 4000000 in
theorem b_X11_change_s188 (X : CX p s m args c cX11_change 4 RX11 D aC ad sg A H0) {o : (Int × Mem) ⊕ (Int × Mem)} (HC : ∀ (y3 : Int) (M1 : Mem) (H : Heap) (locs : List Loc) (ls : Array Slot), o = .inl (y3, M1) → inR y3 → lv_has ls 4 [(0, .ref (ad 80)), (3, .int (i2 y3))] → WS D aC ad A H0 M1 H locs → W p l e rm_X11_change s m args below meth c H locs 0 0 Q (F0 m 188 ls [])) (HE : ∀ (y3 : Int) (M1 : Mem) (H : Heap) (locs : List Loc) (ls : Array Slot), o = .inr (y3, M1) → inR y3 → lv_has ls 4 [(0, .ref (ad 80)), (3, .int (i2 y3))] → WS D aC ad A H0 M1 H locs → W p l e rm_X11_change s m args below meth c H locs 0 0 Q (F0 m 214 ls [])) (v3 : Int) (hv3 : inR v3) (M : Mem) (hf : f_X11_change_s188 v3 M = some o) {H : Heap} {locs : List Loc} {ls : Array Slot} (hl : lv_has ls 4 [(0, .ref (ad 80)), (3, .int (i2 v3))]) (w : WS D aC ad A H0 M H locs) : W p l e rm_X11_change s m args below meth c H locs 0 0 Q (F0 m 188 ls []) := by
  have hx := X.1.1
  have hb := X.1.2.1
  unfold f_X11_change_s188 at hf
  refine lv_iload_n hx hb dX11_change_188 rfl (lv_at hl 1 rfl) ?_
  refine lv_aload_n hx hb dX11_change_189 rfl (lv_at hl 0 rfl) ?_
  refine g_geti X w fg_X11_142 KD_80 FR_80_1 dX11_change_190 ?_
  refine g_icmp_ge (tgt := 214) X hv3 (w.2.2 _ _) dX11_change_193 (by decide) (fun cd => ?_) (fun cd => ?_)
  · replace hf := ite_t cd hf
    exact HE v3 M _ _ _ (Option.some.inj hf).symm hv3 hl w
  · replace hf := ite_f cd hf
    refine lv_aload_n hx hb dX11_change_196 rfl (lv_at hl 0 rfl) ?_
    refine g_getr X w fg_X11_103 KD_80 FR_80_42 dX11_change_197 ?_
    refine lv_iload_n hx hb dX11_change_200 rfl (lv_at hl 1 rfl) ?_
    refine lv_aload_n hx hb dX11_change_201 rfl (lv_at hl 0 rfl) ?_
    refine g_getr X w fg_X11_100 KD_80 FR_80_41 dX11_change_202 ?_
    refine lv_iload_n hx hb dX11_change_205 rfl (lv_at hl 1 rfl) ?_
    obtain ⟨hg, hf⟩ := gd_some hf
    refine g_iald X w KD_108 hv3 hg dX11_change_206 ?_
    obtain ⟨hg_2, hf⟩ := gd_some hf
    obtain ⟨M_2, eM_2, hf⟩ := lt_some hf
    refine g_iast X w KD_109 hv3 hg_2 (w.2.2 _ _) dX11_change_207 (fun H locs w_M_2 => ?_)
    rw [← eM_2] at w_M_2
    obtain ⟨v3_2, ev3_2, hf⟩ := lt_some hf
    have hv3_2 : inR v3_2 := inR_of ev3_2 (inR_wrap _)
    refine lv_iinc (v := i2 v3_2) (lv' := [(3, .int (i2 v3_2)), (0, .ref (ad 80))]) hx hb dX11_change_208 hl (k := 1) rfl (by rw [ev3_2]; exact i2_add _ _) (by decide) rfl (fun ls hl => ?_)
    refine lv_goto (tgt := 188) hx hb dX11_change_211 (by decide) ?_
    exact HC v3_2 M_2 _ _ _ (Option.some.inj hf).symm hv3_2 (lv_sub hl [1, 0] rfl) w_M_2
set_option maxRecDepth 100000 in
set_option maxHeartbeats 4000000 in
theorem l_X11_change_188 (X : CX p s m args c cX11_change 4 RX11 D aC ad sg A H0) {out : Int × Mem} (HE : ∀ (y3 : Int) (M1 : Mem) (H : Heap) (locs : List Loc) (ls : Array Slot), out = (y3, M1) → inR y3 → lv_has ls 4 [(0, .ref (ad 80)), (3, .int (i2 y3))] → WS D aC ad A H0 M1 H locs → W p l e rm_X11_change s m args below meth c H locs 0 0 Q (F0 m 214 ls [])) : ∀ (n : Nat) (v3 : Int) (M : Mem), whl (fun s => f_X11_change_s188 s.1 s.2) n (v3, M) = some out → inR v3 → ∀ {H : Heap} {locs : List Loc} {ls : Array Slot}, lv_has ls 4 [(0, .ref (ad 80)), (3, .int (i2 v3))] → WS D aC ad A H0 M H locs → W p l e rm_X11_change s m args below meth c H locs 0 0 Q (F0 m 188 ls []) := by
  intro n
  induction n with
  | zero => intro v3 M hf; exact (whl_zero hf).elim
  | succ n ih =>
    intro v3 M hf hv3 H locs ls hl w
    obtain ⟨o, hf, hk1, hk2⟩ := whl_step hf
    exact b_X11_change_s188 X  (fun y3 M1 H locs ls eo hy3 hl w => ih y3 M1 (hk1 _ eo) hy3 hl w) (fun y3 M1 H locs ls eo hy3 hl w => HE y3 M1 H locs ls (hk2 _ eo).symm hy3 hl w) v3 hv3 M hf hl w
set_option maxRecDepth 100000 in
set_option maxHeartbeats 4000000 in
theorem b_X11_change_j214k86 (X : CX p s m args c cX11_change 4 RX11 D aC ad sg A H0) {o : (Mem) ⊕ (Mem)} (HC : ∀  (M1 : Mem) (H : Heap) (locs : List Loc) (ls : Array Slot), o = .inl M1 → lv_has ls 4 [(0, .ref (ad 80))] → WS D aC ad A H0 M1 H locs → W p l e rm_X11_change s m args below meth c H locs 0 0 Q (F0 m 86 ls [])) (HE : ∀  (M1 : Mem) (H : Heap) (locs : List Loc) (ls : Array Slot), o = .inr M1 → lv_has ls 4 [(0, .ref (ad 80))] → WS D aC ad A H0 M1 H locs → W p l e rm_X11_change s m args below meth c H locs 0 0 Q (F0 m 221 ls [])) (M : Mem) (hf : f_X11_change_j214k86 M = some o) {H : Heap} {locs : List Loc} {ls : Array Slot} (hl : lv_has ls 4 [(0, .ref (ad 80))]) (w : WS D aC ad A H0 M H locs) : W p l e rm_X11_change s m args below meth c H locs 0 0 Q (F0 m 214 ls []) := by
  have hx := X.1.1
  have hb := X.1.2.1
  unfold f_X11_change_j214k86 at hf
  refine lv_aload_n hx hb dX11_change_214 rfl (lv_at hl 0 rfl) ?_
  obtain ⟨r, M_2, hc, hf⟩ := bnd_some hf
  refine g_cvi (As := []) (rest := []) X w (k_X11_counts X.2.2.1  w.2.2 hc) lk_X11_361 cl_11 KD_80 ⟨rfl, rfl⟩ ⟨nle rfl, nle rfl⟩ ⟨nle rfl, nle rfl⟩ hl.1 rfl (nle rfl) dX11_change_215 (fun hr H locs w_M_2 => ?_)
  refine g_if_ne (tgt := 86) X hr dX11_change_218 (by decide) (fun cd => ?_) (fun cd => ?_)
  · replace hf := ite_f cd hf
    exact HC  M_2 _ _ _ (Option.some.inj hf).symm  hl w_M_2
  · replace hf := ite_t cd hf
    exact HE  M_2 _ _ _ (Option.some.inj hf).symm  hl w_M_2
set_option maxRecDepth 100000 in
set_option maxHeartbeats 4000000 in
theorem b_X11_change_j127k86 (X : CX p s m args c cX11_change 4 RX11 D aC ad sg A H0) {o : (Mem) ⊕ (Mem)} (HC : ∀  (M1 : Mem) (H : Heap) (locs : List Loc) (ls : Array Slot), o = .inl M1 → lv_has ls 4 [(0, .ref (ad 80))] → WS D aC ad A H0 M1 H locs → W p l e rm_X11_change s m args below meth c H locs 0 0 Q (F0 m 86 ls [])) (HE : ∀  (M1 : Mem) (H : Heap) (locs : List Loc) (ls : Array Slot), o = .inr M1 → lv_has ls 4 [(0, .ref (ad 80))] → WS D aC ad A H0 M1 H locs → W p l e rm_X11_change s m args below meth c H locs 0 0 Q (F0 m 221 ls [])) (v1 : Int) (hv1 : inR v1) (M : Mem) (hf : f_X11_change_j127k86 v1 M = some o) {H : Heap} {locs : List Loc} {ls : Array Slot} (hl : lv_has ls 4 [(0, .ref (ad 80)), (1, .int (i2 v1))]) (w : WS D aC ad A H0 M H locs) : W p l e rm_X11_change s m args below meth c H locs 0 0 Q (F0 m 127 ls []) := by
  have hx := X.1.1
  have hb := X.1.2.1
  unfold f_X11_change_j127k86 at hf
  refine lv_iload_n hx hb dX11_change_127 rfl (lv_at hl 1 rfl) ?_
  refine lv_aload_n hx hb dX11_change_128 rfl (lv_at hl 0 rfl) ?_
  refine g_geti X w fg_X11_387 KD_80 FR_80_46 dX11_change_129 ?_
  refine g_icmp_gt (tgt := 214) X hv1 (w.2.2 _ _) dX11_change_132 (by decide) (fun cd => ?_) (fun cd => ?_)
  · replace hf := ite_t cd hf
    refine lv_aload_n hx hb dX11_change_214 rfl (lv_at hl 0 rfl) ?_
    obtain ⟨r, M_2, hc, hf⟩ := bnd_some hf
    refine g_cvi (As := []) (rest := []) X w (k_X11_counts X.2.2.1  w.2.2 hc) lk_X11_361 cl_11 KD_80 ⟨rfl, rfl⟩ ⟨nle rfl, nle rfl⟩ ⟨nle rfl, nle rfl⟩ hl.1 rfl (nle rfl) dX11_change_215 (fun hr H locs w_M_2 => ?_)
    refine g_if_ne (tgt := 86) X hr dX11_change_218 (by decide) (fun cd_2 => ?_) (fun cd_2 => ?_)
    · replace hf := ite_f cd_2 hf
      exact HC  M_2 _ _ _ (Option.some.inj hf).symm  (lv_sub hl [0] rfl) w_M_2
    · replace hf := ite_t cd_2 hf
      exact HE  M_2 _ _ _ (Option.some.inj hf).symm  (lv_sub hl [0] rfl) w_M_2
  · replace hf := ite_f cd hf
    refine lv_aload_n hx hb dX11_change_135 rfl (lv_at hl 0 rfl) ?_
    obtain ⟨r_2, hc, hf⟩ := obn_some hf
    refine g_cvi (As := []) (rest := []) X w (k_X11_isSound X.2.2.1  w.2.2 hc) lk_X11_352 cl_11 KD_80 ⟨rfl, rfl⟩ ⟨nle rfl, nle rfl⟩ ⟨nle rfl, nle rfl⟩ hl.1 rfl (nle rfl) dX11_change_136 (fun hr_2 H locs w => ?_)
    refine g_if_eq (tgt := 214) X hr_2 dX11_change_139 (by decide) (fun cd_3 => ?_) (fun cd_3 => ?_)
    · replace hf := ite_t cd_3 hf
      refine lv_aload_n hx hb dX11_change_214 rfl (lv_at hl 0 rfl) ?_
      obtain ⟨r_3, M_3, hc, hf⟩ := bnd_some hf
      refine g_cvi (As := []) (rest := []) X w (k_X11_counts X.2.2.1  w.2.2 hc) lk_X11_361 cl_11 KD_80 ⟨rfl, rfl⟩ ⟨nle rfl, nle rfl⟩ ⟨nle rfl, nle rfl⟩ hl.1 rfl (nle rfl) dX11_change_215 (fun hr_3 H locs w_M_3 => ?_)
      refine g_if_ne (tgt := 86) X hr_3 dX11_change_218 (by decide) (fun cd_4 => ?_) (fun cd_4 => ?_)
      · replace hf := ite_f cd_4 hf
        exact HC  M_3 _ _ _ (Option.some.inj hf).symm  (lv_sub hl [0] rfl) w_M_3
      · replace hf := ite_t cd_4 hf
        exact HE  M_3 _ _ _ (Option.some.inj hf).symm  (lv_sub hl [0] rfl) w_M_3
    · replace hf := ite_f cd_3 hf
      refine lv_aload_n hx hb dX11_change_142 rfl (lv_at hl 0 rfl) ?_
      obtain ⟨r_4, hc, hf⟩ := obn_some hf
      refine g_cvi (As := []) (rest := []) X w (k_X11_lack X.2.2.1  w.2.2 hc) lk_X11_355 cl_11 KD_80 ⟨rfl, rfl⟩ ⟨nle rfl, nle rfl⟩ ⟨nle rfl, nle rfl⟩ hl.1 rfl (nle rfl) dX11_change_143 (fun hr_4 H locs w => ?_)
      refine g_if_le (tgt := 152) X hr_4 dX11_change_146 (by decide) (fun cd_5 => ?_) (fun cd_5 => ?_)
      · replace hf := ite_t cd_5 hf
        refine lv_aload_n hx hb dX11_change_152 rfl (lv_at hl 0 rfl) ?_
        obtain ⟨r_5, hc, hf⟩ := obn_some hf
        refine g_cvi (As := []) (rest := []) X w (k_X11_allHarm X.2.2.1  w.2.2 hc) lk_X11_358 cl_11 KD_80 ⟨rfl, rfl⟩ ⟨nle rfl, nle rfl⟩ ⟨nle rfl, nle rfl⟩ hl.1 rfl (nle rfl) dX11_change_153 (fun hr_5 H locs w => ?_)
        refine g_istn (v := r_5) (lv' := [(2, .int (i2 r_5)), (0, .ref (ad 80)), (1, .int (i2 v1))]) X rfl dX11_change_156 rfl hl (by decide) rfl (fun ls hl => ?_)
        refine lv_iload_n hx hb dX11_change_157 rfl (lv_at hl 2 rfl) ?_
        refine lv_aload_n hx hb dX11_change_158 rfl (lv_at hl 1 rfl) ?_
        refine g_geti X w fg_X11_387 KD_80 FR_80_46 dX11_change_159 ?_
        refine g_icmp_ne (tgt := 176) X hv1 (w.2.2 _ _) dX11_change_162 (by decide) (fun cd_6 => ?_) (fun cd_6 => ?_)
        · replace hf := ite_f cd_6 hf
          refine lv_aload_n hx hb dX11_change_176 rfl (lv_at hl 1 rfl) ?_
          refine lv_iload_n hx hb dX11_change_177 rfl (lv_at hl 2 rfl) ?_
          obtain ⟨M_4, eM_4, hf⟩ := lt_some hf
          refine g_puti X w fp_X11_387 KD_80 FR_80_46 hv1 dX11_change_178 (fun H locs w_M_4 => ?_)
          rw [← eM_4] at w_M_4
          refine lv_aload_n hx hb dX11_change_181 rfl (lv_at hl 1 rfl) ?_
          refine lv_iload_n hx hb dX11_change_182 rfl (lv_at hl 0 rfl) ?_
          obtain ⟨M_5, eM_5, hf⟩ := lt_some hf
          refine g_puti X w_M_4 fp_X11_349 KD_80 FR_80_45 hr_5 dX11_change_183 (fun H locs w_M_5 => ?_)
          rw [← eM_5] at w_M_5
          refine g_iconst X dX11_change_186 ?_
          refine g_istn (v := 0) (lv' := [(3, .int (i2 0)), (2, .int (i2 r_5)), (0, .ref (ad 80)), (1, .int (i2 v1))]) X rfl dX11_change_187 rfl hl (by decide) rfl (fun ls hl => ?_)
          obtain ⟨q, hq, h1⟩ := obn_some hf
          exact l_X11_change_188 X  (out := q) (fun y3 M1 H locs ls eq hy3 hl w => b_X11_change_j214k86 X  HC HE M1 (by subst eq; exact h1) (lv_sub hl [0] rfl) w)  FU 0 M_5 hq (inL rfl) (lv_sub hl [2, 0] rfl) w_M_5
        · replace hf := ite_t cd_6 hf
          refine lv_iload_n hx hb dX11_change_165 rfl (lv_at hl 0 rfl) ?_
          refine lv_aload_n hx hb dX11_change_166 rfl (lv_at hl 1 rfl) ?_
          refine g_geti X w fg_X11_349 KD_80 FR_80_45 dX11_change_167 ?_
          refine g_icmp_lt (tgt := 176) X hr_5 (w.2.2 _ _) dX11_change_170 (by decide) (fun cd_7 => ?_) (fun cd_7 => ?_)
          · replace hf := ite_t cd_7 hf
            refine lv_aload_n hx hb dX11_change_176 rfl (lv_at hl 1 rfl) ?_
            refine lv_iload_n hx hb dX11_change_177 rfl (lv_at hl 2 rfl) ?_
            obtain ⟨M_6, eM_6, hf⟩ := lt_some hf
            refine g_puti X w fp_X11_387 KD_80 FR_80_46 hv1 dX11_change_178 (fun H locs w_M_6 => ?_)
            rw [← eM_6] at w_M_6
            refine lv_aload_n hx hb dX11_change_181 rfl (lv_at hl 1 rfl) ?_
            refine lv_iload_n hx hb dX11_change_182 rfl (lv_at hl 0 rfl) ?_
            obtain ⟨M_7, eM_7, hf⟩ := lt_some hf
            refine g_puti X w_M_6 fp_X11_349 KD_80 FR_80_45 hr_5 dX11_change_183 (fun H locs w_M_7 => ?_)
            rw [← eM_7] at w_M_7
            refine g_iconst X dX11_change_186 ?_
            refine g_istn (v := 0) (lv' := [(3, .int (i2 0)), (2, .int (i2 r_5)), (0, .ref (ad 80)), (1, .int (i2 v1))]) X rfl dX11_change_187 rfl hl (by decide) rfl (fun ls hl => ?_)
            obtain ⟨q, hq, h1⟩ := obn_some hf
            exact l_X11_change_188 X  (out := q) (fun y3 M1 H locs ls eq hy3 hl w => b_X11_change_j214k86 X  HC HE M1 (by subst eq; exact h1) (lv_sub hl [0] rfl) w)  FU 0 M_7 hq (inL rfl) (lv_sub hl [2, 0] rfl) w_M_7
          · replace hf := ite_f cd_7 hf
            refine lv_goto (tgt := 214) hx hb dX11_change_173 (by decide) ?_
            refine lv_aload_n hx hb dX11_change_214 rfl (lv_at hl 1 rfl) ?_
            obtain ⟨r_6, M_8, hc, hf⟩ := bnd_some hf
            refine g_cvi (As := []) (rest := []) X w (k_X11_counts X.2.2.1  w.2.2 hc) lk_X11_361 cl_11 KD_80 ⟨rfl, rfl⟩ ⟨nle rfl, nle rfl⟩ ⟨nle rfl, nle rfl⟩ hl.1 rfl (nle rfl) dX11_change_215 (fun hr_6 H locs w_M_8 => ?_)
            refine g_if_ne (tgt := 86) X hr_6 dX11_change_218 (by decide) (fun cd_8 => ?_) (fun cd_8 => ?_)
            · replace hf := ite_f cd_8 hf
              exact HC  M_8 _ _ _ (Option.some.inj hf).symm  (lv_sub hl [1] rfl) w_M_8
            · replace hf := ite_t cd_8 hf
              exact HE  M_8 _ _ _ (Option.some.inj hf).symm  (lv_sub hl [1] rfl) w_M_8
      · replace hf := ite_f cd_5 hf
        refine lv_goto (tgt := 214) hx hb dX11_change_149 (by decide) ?_
        refine lv_aload_n hx hb dX11_change_214 rfl (lv_at hl 0 rfl) ?_
        obtain ⟨r_7, M_9, hc, hf⟩ := bnd_some hf
        refine g_cvi (As := []) (rest := []) X w (k_X11_counts X.2.2.1  w.2.2 hc) lk_X11_361 cl_11 KD_80 ⟨rfl, rfl⟩ ⟨nle rfl, nle rfl⟩ ⟨nle rfl, nle rfl⟩ hl.1 rfl (nle rfl) dX11_change_215 (fun hr_7 H locs w_M_9 => ?_)
        refine g_if_ne (tgt := 86) X hr_7 dX11_change_218 (by decide) (fun cd_9 => ?_) (fun cd_9 => ?_)
        · replace hf := ite_f cd_9 hf
          exact HC  M_9 _ _ _ (Option.some.inj hf).symm  (lv_sub hl [0] rfl) w_M_9
        · replace hf := ite_t cd_9 hf
          exact HE  M_9 _ _ _ (Option.some.inj hf).symm  (lv_sub hl [0] rfl) w_M_9
set_option maxRecDepth 100000 in
set_option maxHeartbeats 4000000 in
theorem b_X11_change_s86 (X : CX p s m args c cX11_change 4 RX11 D aC ad sg A H0) {o : (Mem) ⊕ (Mem)} (HC : ∀  (M1 : Mem) (H : Heap) (locs : List Loc) (ls : Array Slot), o = .inl M1 → lv_has ls 4 [(0, .ref (ad 80))] → WS D aC ad A H0 M1 H locs → W p l e rm_X11_change s m args below meth c H locs 0 0 Q (F0 m 86 ls [])) (HE : ∀  (M1 : Mem) (H : Heap) (locs : List Loc) (ls : Array Slot), o = .inr M1 → lv_has ls 4 [(0, .ref (ad 80))] → WS D aC ad A H0 M1 H locs → W p l e rm_X11_change s m args below meth c H locs 0 0 Q (F0 m 221 ls [])) (M : Mem) (hf : f_X11_change_s86 M = some o) {H : Heap} {locs : List Loc} {ls : Array Slot} (hl : lv_has ls 4 [(0, .ref (ad 80))]) (w : WS D aC ad A H0 M H locs) : W p l e rm_X11_change s m args below meth c H locs 0 0 Q (F0 m 86 ls []) := by
  have hx := X.1.1
  have hb := X.1.2.1
  unfold f_X11_change_s86 at hf
  refine g_iconst X dX11_change_86 ?_
  refine g_istn (v := 0) (lv' := [(1, .int (i2 0)), (0, .ref (ad 80))]) X rfl dX11_change_87 rfl hl (by decide) rfl (fun ls hl => ?_)
  refine g_iconst X dX11_change_88 ?_
  refine g_istn (v := 0) (lv' := [(2, .int (i2 0)), (1, .int (i2 0)), (0, .ref (ad 80))]) X rfl dX11_change_89 rfl hl (by decide) rfl (fun ls hl => ?_)
  obtain ⟨q, hq, h1⟩ := obn_some hf
  exact l_X11_change_90 X  (out := q) (fun y1 y2 H locs ls eq hy1 hy2 hl w => b_X11_change_j127k86 X  HC HE y1 hy1 M (by subst eq; exact h1) (lv_sub hl [0, 1] rfl) w)  FU 0 0 hq (inL rfl) (inL rfl) (lv_sub hl [2, 1, 0] rfl) w
set_option maxRecDepth 100000 in
set_option maxHeartbeats 4000000 in
theorem l_X11_change_86 (X : CX p s m args c cX11_change 4 RX11 D aC ad sg A H0) {out : Mem} (HE : ∀  (M1 : Mem) (H : Heap) (locs : List Loc) (ls : Array Slot), out = M1 → lv_has ls 4 [(0, .ref (ad 80))] → WS D aC ad A H0 M1 H locs → W p l e rm_X11_change s m args below meth c H locs 0 0 Q (F0 m 221 ls [])) : ∀ (n : Nat)  (M : Mem), whl (fun s => f_X11_change_s86 s) n M = some out → ∀ {H : Heap} {locs : List Loc} {ls : Array Slot}, lv_has ls 4 [(0, .ref (ad 80))] → WS D aC ad A H0 M H locs → W p l e rm_X11_change s m args below meth c H locs 0 0 Q (F0 m 86 ls []) := by
  intro n
  induction n with
  | zero => intro M hf; exact (whl_zero hf).elim
  | succ n ih =>
    intro M hf  H locs ls hl w
    obtain ⟨o, hf, hk1, hk2⟩ := whl_step hf
    exact b_X11_change_s86 X  (fun  M1 H locs ls eo  hl w => ih  M1 (hk1 _ eo)  hl w) (fun  M1 H locs ls eo  hl w => HE  M1 H locs ls (hk2 _ eo).symm  hl w)  M hf hl w
set_option maxRecDepth 100000 in
set_option maxHeartbeats 4000000 in
theorem b_X11_change_s236 (X : CX p s m args c cX11_change 4 RX11 D aC ad sg A H0) {o : (Int × Mem) ⊕ (Int × Mem)} (HC : ∀ (y1 : Int) (M1 : Mem) (H : Heap) (locs : List Loc) (ls : Array Slot), o = .inl (y1, M1) → inR y1 → lv_has ls 4 [(0, .ref (ad 80)), (1, .int (i2 y1))] → WS D aC ad A H0 M1 H locs → W p l e rm_X11_change s m args below meth c H locs 0 0 Q (F0 m 236 ls [])) (HE : ∀ (y1 : Int) (M1 : Mem) (H : Heap) (locs : List Loc) (ls : Array Slot), o = .inr (y1, M1) → inR y1 → lv_has ls 4 [(0, .ref (ad 80)), (1, .int (i2 y1))] → WS D aC ad A H0 M1 H locs → W p l e rm_X11_change s m args below meth c H locs 0 0 Q (F0 m 262 ls [])) (v1 : Int) (hv1 : inR v1) (M : Mem) (hf : f_X11_change_s236 v1 M = some o) {H : Heap} {locs : List Loc} {ls : Array Slot} (hl : lv_has ls 4 [(0, .ref (ad 80)), (1, .int (i2 v1))]) (w : WS D aC ad A H0 M H locs) : W p l e rm_X11_change s m args below meth c H locs 0 0 Q (F0 m 236 ls []) := by
  have hx := X.1.1
  have hb := X.1.2.1
  unfold f_X11_change_s236 at hf
  refine lv_iload_n hx hb dX11_change_236 rfl (lv_at hl 1 rfl) ?_
  refine lv_aload_n hx hb dX11_change_237 rfl (lv_at hl 0 rfl) ?_
  refine g_geti X w fg_X11_142 KD_80 FR_80_1 dX11_change_238 ?_
  refine g_icmp_ge (tgt := 262) X hv1 (w.2.2 _ _) dX11_change_241 (by decide) (fun cd => ?_) (fun cd => ?_)
  · replace hf := ite_t cd hf
    exact HE v1 M _ _ _ (Option.some.inj hf).symm hv1 hl w
  · replace hf := ite_f cd hf
    refine lv_aload_n hx hb dX11_change_244 rfl (lv_at hl 0 rfl) ?_
    refine g_getr X w fg_X11_106 KD_80 FR_80_47 dX11_change_245 ?_
    refine lv_iload_n hx hb dX11_change_248 rfl (lv_at hl 1 rfl) ?_
    refine lv_aload_n hx hb dX11_change_249 rfl (lv_at hl 0 rfl) ?_
    refine g_getr X w fg_X11_103 KD_80 FR_80_42 dX11_change_250 ?_
    refine lv_iload_n hx hb dX11_change_253 rfl (lv_at hl 1 rfl) ?_
    obtain ⟨hg, hf⟩ := gd_some hf
    refine g_iald X w KD_109 hv1 hg dX11_change_254 ?_
    obtain ⟨hg_2, hf⟩ := gd_some hf
    obtain ⟨M_2, eM_2, hf⟩ := lt_some hf
    refine g_iast X w KD_110 hv1 hg_2 (w.2.2 _ _) dX11_change_255 (fun H locs w_M_2 => ?_)
    rw [← eM_2] at w_M_2
    obtain ⟨v1_2, ev1_2, hf⟩ := lt_some hf
    have hv1_2 : inR v1_2 := inR_of ev1_2 (inR_wrap _)
    refine lv_iinc (v := i2 v1_2) (lv' := [(1, .int (i2 v1_2)), (0, .ref (ad 80))]) hx hb dX11_change_256 hl (k := 1) rfl (by rw [ev1_2]; exact i2_add _ _) (by decide) rfl (fun ls hl => ?_)
    refine lv_goto (tgt := 236) hx hb dX11_change_259 (by decide) ?_
    exact HC v1_2 M_2 _ _ _ (Option.some.inj hf).symm hv1_2 (lv_sub hl [1, 0] rfl) w_M_2
set_option maxRecDepth 100000 in
set_option maxHeartbeats 4000000 in
theorem l_X11_change_236 (X : CX p s m args c cX11_change 4 RX11 D aC ad sg A H0) {out : Int × Mem} (HE : ∀ (y1 : Int) (M1 : Mem) (H : Heap) (locs : List Loc) (ls : Array Slot), out = (y1, M1) → inR y1 → lv_has ls 4 [(0, .ref (ad 80)), (1, .int (i2 y1))] → WS D aC ad A H0 M1 H locs → W p l e rm_X11_change s m args below meth c H locs 0 0 Q (F0 m 262 ls [])) : ∀ (n : Nat) (v1 : Int) (M : Mem), whl (fun s => f_X11_change_s236 s.1 s.2) n (v1, M) = some out → inR v1 → ∀ {H : Heap} {locs : List Loc} {ls : Array Slot}, lv_has ls 4 [(0, .ref (ad 80)), (1, .int (i2 v1))] → WS D aC ad A H0 M H locs → W p l e rm_X11_change s m args below meth c H locs 0 0 Q (F0 m 236 ls []) := by
  intro n
  induction n with
  | zero => intro v1 M hf; exact (whl_zero hf).elim
  | succ n ih =>
    intro v1 M hf hv1 H locs ls hl w
    obtain ⟨o, hf, hk1, hk2⟩ := whl_step hf
    exact b_X11_change_s236 X  (fun y1 M1 H locs ls eo hy1 hl w => ih y1 M1 (hk1 _ eo) hy1 hl w) (fun y1 M1 H locs ls eo hy1 hl w => HE y1 M1 H locs ls (hk2 _ eo).symm hy1 hl w) v1 hv1 M hf hl w
set_option maxRecDepth 100000 in
set_option maxHeartbeats 4000000 in
theorem b_X11_change_j262 (X : CX p s m args c cX11_change 4 RX11 D aC ad sg A H0) {o : Int × Mem} (HR : ∀ (r : Int) (M1 : Mem) (H : Heap) (locs : List Loc) (pc : Nat) (ls : Array Slot), o = (r, M1) → inR r → WS D aC ad A H0 M1 H locs → decode cX11_change pc = .ok (.ireturn, 1) → W p l e rm_X11_change s m args below meth c H locs 0 0 Q (F0 m pc ls [.int (i2 r)])) (M : Mem) (hf : f_X11_change_j262 M = some o) {H : Heap} {locs : List Loc} {ls : Array Slot} (hl : lv_has ls 4 [(0, .ref (ad 80))]) (w : WS D aC ad A H0 M H locs) : W p l e rm_X11_change s m args below meth c H locs 0 0 Q (F0 m 262 ls []) := by
  have hx := X.1.1
  have hb := X.1.2.1
  unfold f_X11_change_j262 at hf
  refine lv_aload_n hx hb dX11_change_262 rfl (lv_at hl 0 rfl) ?_
  refine g_geti X w fg_X11_387 KD_80 FR_80_46 dX11_change_263 ?_
  exact HR (M 80 46) M _ _ _ _ (Option.some.inj hf).symm (w.2.2 _ _) w dX11_change_266
set_option maxRecDepth 100000 in
set_option maxHeartbeats 4000000 in
theorem b_X11_change_j221 (X : CX p s m args c cX11_change 4 RX11 D aC ad sg A H0) {o : Int × Mem} (HR : ∀ (r : Int) (M1 : Mem) (H : Heap) (locs : List Loc) (pc : Nat) (ls : Array Slot), o = (r, M1) → inR r → WS D aC ad A H0 M1 H locs → decode cX11_change pc = .ok (.ireturn, 1) → W p l e rm_X11_change s m args below meth c H locs 0 0 Q (F0 m pc ls [.int (i2 r)])) (M : Mem) (hf : f_X11_change_j221 M = some o) {H : Heap} {locs : List Loc} {ls : Array Slot} (hl : lv_has ls 4 [(0, .ref (ad 80))]) (w : WS D aC ad A H0 M H locs) : W p l e rm_X11_change s m args below meth c H locs 0 0 Q (F0 m 221 ls []) := by
  have hx := X.1.1
  have hb := X.1.2.1
  unfold f_X11_change_j221 at hf
  refine lv_aload_n hx hb dX11_change_221 rfl (lv_at hl 0 rfl) ?_
  refine g_geti X w fg_X11_387 KD_80 FR_80_46 dX11_change_222 ?_
  refine g_ldcw X kc_X11_336 dX11_change_225 ?_
  refine g_icmp_ne (tgt := 234) X (w.2.2 _ _) (inL rfl) dX11_change_228 (by decide) (fun cd => ?_) (fun cd => ?_)
  · replace hf := ite_f cd hf
    refine g_iconst X dX11_change_234 ?_
    refine g_istn (v := 0) (lv' := [(1, .int (i2 0)), (0, .ref (ad 80))]) X rfl dX11_change_235 rfl hl (by decide) rfl (fun ls hl => ?_)
    obtain ⟨q, hq, h1⟩ := obn_some hf
    exact l_X11_change_236 X  (out := q) (fun y1 M1 H locs ls eq hy1 hl w => b_X11_change_j262 X  HR M1 (by subst eq; exact h1) (lv_sub hl [0] rfl) w)  FU 0 M hq (inL rfl) (lv_sub hl [1, 0] rfl) w
  · replace hf := ite_t cd hf
    refine g_bipush X dX11_change_231 (by decide) ?_
    exact HR (-2) M _ _ _ _ (Option.some.inj hf).symm (inL rfl) w dX11_change_233
set_option maxRecDepth 100000 in
set_option maxHeartbeats 4000000 in
theorem b_X11_change_j72 (X : CX p s m args c cX11_change 4 RX11 D aC ad sg A H0) {o : Int × Mem} (HR : ∀ (r : Int) (M1 : Mem) (H : Heap) (locs : List Loc) (pc : Nat) (ls : Array Slot), o = (r, M1) → inR r → WS D aC ad A H0 M1 H locs → decode cX11_change pc = .ok (.ireturn, 1) → W p l e rm_X11_change s m args below meth c H locs 0 0 Q (F0 m pc ls [.int (i2 r)])) (M : Mem) (hf : f_X11_change_j72 M = some o) {H : Heap} {locs : List Loc} {ls : Array Slot} (hl : lv_has ls 4 [(0, .ref (ad 80))]) (w : WS D aC ad A H0 M H locs) : W p l e rm_X11_change s m args below meth c H locs 0 0 Q (F0 m 72 ls []) := by
  have hx := X.1.1
  have hb := X.1.2.1
  unfold f_X11_change_j72 at hf
  refine lv_aload_n hx hb dX11_change_72 rfl (lv_at hl 0 rfl) ?_
  refine g_ldcw X kc_X11_336 dX11_change_73 ?_
  obtain ⟨M_2, eM_2, hf⟩ := lt_some hf
  refine g_puti X w fp_X11_349 KD_80 FR_80_45 (inL rfl) dX11_change_76 (fun H locs w_M_2 => ?_)
  rw [← eM_2] at w_M_2
  refine lv_aload_n hx hb dX11_change_79 rfl (lv_at hl 0 rfl) ?_
  refine g_ldcw X kc_X11_336 dX11_change_80 ?_
  obtain ⟨M_3, eM_3, hf⟩ := lt_some hf
  refine g_puti X w_M_2 fp_X11_387 KD_80 FR_80_46 (inL rfl) dX11_change_83 (fun H locs w_M_3 => ?_)
  rw [← eM_3] at w_M_3
  obtain ⟨q, hq, h1⟩ := obn_some hf
  exact l_X11_change_86 X  (out := q) (fun  M1 H locs ls eq  hl w => b_X11_change_j221 X  HR M1 (by subst eq; exact h1) hl w)  FU M_3 hq  hl w_M_3
set_option maxRecDepth 100000 in
set_option maxHeartbeats 4000000 in
theorem b_X11_change_0 (X : CX p s m args c cX11_change 4 RX11 D aC ad sg A H0) {o : Int × Mem} (HR : ∀ (r : Int) (M1 : Mem) (H : Heap) (locs : List Loc) (pc : Nat) (ls : Array Slot), o = (r, M1) → inR r → WS D aC ad A H0 M1 H locs → decode cX11_change pc = .ok (.ireturn, 1) → W p l e rm_X11_change s m args below meth c H locs 0 0 Q (F0 m pc ls [.int (i2 r)])) (M : Mem) (hf : f_X11_change M = some o) {H : Heap} {locs : List Loc} {ls : Array Slot} (hl : lv_has ls 4 [(0, .ref (ad 80))]) (w : WS D aC ad A H0 M H locs) : W p l e rm_X11_change s m args below meth c H locs 0 0 Q (F0 m 0 ls []) := by
  have hx := X.1.1
  have hb := X.1.2.1
  unfold f_X11_change at hf
  refine lv_aload_n hx hb dX11_change_0 rfl (lv_at hl 0 rfl) ?_
  refine g_iconst X dX11_change_1 ?_
  obtain ⟨M_2, eM_2, hf⟩ := lt_some hf
  refine g_puti X w fp_X11_139 KD_80 FR_80_0 (inL rfl) dX11_change_2 (fun H locs w_M_2 => ?_)
  rw [← eM_2] at w_M_2
  refine lv_aload_n hx hb dX11_change_5 rfl (lv_at hl 0 rfl) ?_
  obtain ⟨r, hc, hf⟩ := obn_some hf
  refine g_cvi (As := []) (rest := []) X w_M_2 (k_X11_listed X.2.2.1  w_M_2.2.2 hc) lk_X11_384 cl_11 KD_80 ⟨rfl, rfl⟩ ⟨nle rfl, nle rfl⟩ ⟨nle rfl, nle rfl⟩ hl.1 rfl (nle rfl) dX11_change_6 (fun hr H locs w_M_2 => ?_)
  refine g_if_ne (tgt := 14) X hr dX11_change_9 (by decide) (fun cd => ?_) (fun cd => ?_)
  · replace hf := ite_f cd hf
    refine lv_aload_n hx hb dX11_change_14 rfl (lv_at hl 0 rfl) ?_
    obtain ⟨r_2, hc, hf⟩ := obn_some hf
    refine g_cvi (As := []) (rest := []) X w_M_2 (k_X11_listed X.2.2.1  w_M_2.2.2 hc) lk_X11_384 cl_11 KD_80 ⟨rfl, rfl⟩ ⟨nle rfl, nle rfl⟩ ⟨nle rfl, nle rfl⟩ hl.1 rfl (nle rfl) dX11_change_15 (fun hr_2 H locs w_M_2 => ?_)
    refine g_bipush X dX11_change_18 (by decide) ?_
    refine g_icmp_le (tgt := 26) X hr_2 (inL rfl) dX11_change_20 (by decide) (fun cd_2 => ?_) (fun cd_2 => ?_)
    · replace hf := ite_t cd_2 hf
      refine lv_aload_n hx hb dX11_change_26 rfl (lv_at hl 0 rfl) ?_
      obtain ⟨M_3, hc, hf⟩ := obn_some hf
      refine g_cvv (As := []) (rest := []) X w_M_2 (k_X11_looks X.2.2.1  w_M_2.2.2 hc) lk_X11_381 cl_11 KD_80 ⟨rfl, rfl⟩ ⟨nle rfl, nle rfl⟩ ⟨nle rfl, nle rfl⟩ hl.1 rfl (nle rfl) dX11_change_27 (fun H locs w_M_3 => ?_)
      refine lv_aload_n hx hb dX11_change_30 rfl (lv_at hl 0 rfl) ?_
      refine g_iconst X dX11_change_31 ?_
      obtain ⟨M_4, eM_4, hf⟩ := lt_some hf
      refine g_putz X w_M_3 fp_X11_156 KD_80 FR_80_43 (Or.inl rfl) dX11_change_32 (fun H locs w_M_4 => ?_)
      rw [← eM_4] at w_M_4
      refine g_iconst X dX11_change_35 ?_
      refine g_istn (v := 0) (lv' := [(1, .int (i2 0)), (0, .ref (ad 80))]) X rfl dX11_change_36 rfl hl (by decide) rfl (fun ls hl => ?_)
      obtain ⟨q, hq, h1⟩ := obn_some hf
      exact l_X11_change_37 X  (out := q) (fun y1 M1 H locs ls eq hy1 hl w => b_X11_change_j72 X  HR M1 (by subst eq; exact h1) (lv_sub hl [0] rfl) w)  FU 0 M_4 hq (inL rfl) (lv_sub hl [1, 0] rfl) w_M_4
    · replace hf := ite_f cd_2 hf
      refine g_bipush X dX11_change_23 (by decide) ?_
      exact HR (-3) M_2 _ _ _ _ (Option.some.inj hf).symm (inL rfl) w_M_2 dX11_change_25
  · replace hf := ite_t cd hf
    refine g_iconst X dX11_change_12 ?_
    exact HR (-1) M_2 _ _ _ _ (Option.some.inj hf).symm (inL rfl) w_M_2 dX11_change_13
set_option maxRecDepth 100000 in
set_option maxHeartbeats 4000000 in
theorem k_X11_change {l : Launch} {D : va_G} {aC : Nat → ClassId} {ad : Nat → Nat} {sg : SG} (hi : Inj ad)  {M : Mem} (hM : inM M) {r : Int} {M' : Mem} (hf : f_X11_change M = some (r, M')) : MetI l D aC ad sg yX11_change cX11_change 4 (some .int) rm_X11_change 0 0 [.ref (ad 80)] M r M' := by
  refine MetI.ofI (by decide +kernel) (nle rfl) hi hM (fun p e s m args below meth c Q H0 ls X hl w hret => ?_)
  exact b_X11_change_0 X  (fun r1 M1 H locs pc ls eo hP w dg => by cases eo; exact hret H locs pc ls hP w dg) M hf hl w
set_option maxRecDepth 100000 in
set_option maxHeartbeats 4000000 in
theorem b_X11_classOf_0 (X : CX p s m args c cX11_classOf 2 RX11 D aC ad sg A H0) {o : Int × Mem} (HR : ∀ (r : Int) (M1 : Mem) (H : Heap) (locs : List Loc) (pc : Nat) (ls : Array Slot), o = (r, M1) → inR r → WS D aC ad A H0 M1 H locs → decode cX11_classOf pc = .ok (.ireturn, 1) → W p l e rm_X11_classOf s m args below meth c H locs 0 0 Q (F0 m pc ls [.int (i2 r)])) (p1 : Int) (hp1 : inR p1) (M : Mem) (hf : f_X11_classOf p1 M = some o) {H : Heap} {locs : List Loc} {ls : Array Slot} (hl : lv_has ls 2 [(0, .ref (ad 80)), (1, .int (i2 p1))]) (w : WS D aC ad A H0 M H locs) : W p l e rm_X11_classOf s m args below meth c H locs 0 0 Q (F0 m 0 ls []) := by
  have hx := X.1.1
  have hb := X.1.2.1
  unfold f_X11_classOf at hf
  refine lv_aload_n hx hb dX11_classOf_0 rfl (lv_at hl 0 rfl) ?_
  refine g_iconst X dX11_classOf_1 ?_
  obtain ⟨M_2, eM_2, hf⟩ := lt_some hf
  refine g_puti X w fp_X11_139 KD_80 FR_80_0 (inL rfl) dX11_classOf_2 (fun H locs w_M_2 => ?_)
  rw [← eM_2] at w_M_2
  refine lv_aload_n hx hb dX11_classOf_5 rfl (lv_at hl 0 rfl) ?_
  refine lv_iload_n hx hb dX11_classOf_6 rfl (lv_at hl 1 rfl) ?_
  obtain ⟨r, hc, hf⟩ := obn_some hf
  refine g_cvi (As := [.int (i2 p1)]) (rest := []) X w_M_2 (k_X11_isChild X.2.2.1 p1 hp1 w_M_2.2.2 hc) lk_X11_149 cl_11 KD_80 ⟨rfl, rfl⟩ ⟨nle rfl, nle rfl⟩ ⟨nle rfl, nle rfl⟩ hl.1 rfl (nle rfl) dX11_classOf_7 (fun hr H locs w_M_2 => ?_)
  refine g_if_eq (tgt := 22) X hr dX11_classOf_10 (by decide) (fun cd => ?_) (fun cd => ?_)
  · replace hf := ite_t cd hf
    refine g_iconst X dX11_classOf_22 ?_
    exact HR (-1) M_2 _ _ _ _ (Option.some.inj hf).symm (inL rfl) w_M_2 dX11_classOf_23
  · replace hf := ite_f cd hf
    refine lv_aload_n hx hb dX11_classOf_13 rfl (lv_at hl 0 rfl) ?_
    refine g_getr X w_M_2 fg_X11_106 KD_80 FR_80_47 dX11_classOf_14 ?_
    refine lv_iload_n hx hb dX11_classOf_17 rfl (lv_at hl 1 rfl) ?_
    obtain ⟨hg, hf⟩ := gd_some hf
    refine g_iald X w_M_2 KD_110 hp1 hg dX11_classOf_18 ?_
    refine lv_goto (tgt := 23) hx hb dX11_classOf_19 (by decide) ?_
    exact HR (M_2 110 p1.toNat) M_2 _ _ _ _ (Option.some.inj hf).symm (w_M_2.2.2 _ _) w_M_2 dX11_classOf_23
set_option maxRecDepth 100000 in
set_option maxHeartbeats 4000000 in
theorem k_X11_classOf {l : Launch} {D : va_G} {aC : Nat → ClassId} {ad : Nat → Nat} {sg : SG} (hi : Inj ad) (p1 : Int) (hp1 : inR p1) {M : Mem} (hM : inM M) {r : Int} {M' : Mem} (hf : f_X11_classOf p1 M = some (r, M')) : MetI l D aC ad sg yX11_classOf cX11_classOf 2 (some .int) rm_X11_classOf 0 0 [.ref (ad 80), .int (i2 p1)] M r M' := by
  refine MetI.ofI (by decide +kernel) (nle rfl) hi hM (fun p e s m args below meth c Q H0 ls X hl w hret => ?_)
  exact b_X11_classOf_0 X  (fun r1 M1 H locs pc ls eo hP w dg => by cases eo; exact hret H locs pc ls hP w dg) p1 hp1 M hf hl w
set_option maxRecDepth 100000 in
set_option maxHeartbeats 4000000 in
theorem b_X11_was_s47 (X : CX p s m args c cX11_was 5 RX11 D aC ad sg A H0) (v1 : Int) (hv1 : inR v1) (v2 : Int) (hv2 : inR v2) {M : Mem} {o : (Int × Int) ⊕ (Int × Int)} (HC : ∀ (y3 : Int) (y4 : Int) (H : Heap) (locs : List Loc) (ls : Array Slot), o = .inl (y3, y4) → inR y3 → inR y4 → lv_has ls 5 [(0, .ref (ad 80)), (1, .int (i2 v1)), (2, .int (i2 v2)), (3, .int (i2 y3)), (4, .int (i2 y4))] → WS D aC ad A H0 M H locs → W p l e rm_X11_was s m args below meth c H locs 0 0 Q (F0 m 47 ls [])) (HE : ∀ (y3 : Int) (y4 : Int) (H : Heap) (locs : List Loc) (ls : Array Slot), o = .inr (y3, y4) → inR y3 → inR y4 → lv_has ls 5 [(0, .ref (ad 80)), (1, .int (i2 v1)), (2, .int (i2 v2)), (3, .int (i2 y3)), (4, .int (i2 y4))] → WS D aC ad A H0 M H locs → W p l e rm_X11_was s m args below meth c H locs 0 0 Q (F0 m 92 ls [])) (v3 : Int) (hv3 : inR v3) (v4 : Int) (hv4 : inR v4) (hf : f_X11_was_s47 v1 v2 M v3 v4 = some o) {H : Heap} {locs : List Loc} {ls : Array Slot} (hl : lv_has ls 5 [(0, .ref (ad 80)), (1, .int (i2 v1)), (2, .int (i2 v2)), (3, .int (i2 v3)), (4, .int (i2 v4))]) (w : WS D aC ad A H0 M H locs) : W p l e rm_X11_was s m args below meth c H locs 0 0 Q (F0 m 47 ls []) := by
  have hx := X.1.1
  have hb := X.1.2.1
  unfold f_X11_was_s47 at hf
  refine lv_iload hx hb dX11_was_47 (lv_at hl 4 rfl) ?_
  refine lv_aload_n hx hb dX11_was_49 rfl (lv_at hl 0 rfl) ?_
  refine g_geti X w fg_X11_409 KD_80 FR_80_56 dX11_was_50 ?_
  refine g_icmp_ge (tgt := 92) X hv4 (w.2.2 _ _) dX11_was_53 (by decide) (fun cd => ?_) (fun cd => ?_)
  · replace hf := ite_t cd hf
    exact HE v3 v4 _ _ _ (Option.some.inj hf).symm hv3 hv4 hl w
  · replace hf := ite_f cd hf
    refine lv_aload_n hx hb dX11_was_56 rfl (lv_at hl 0 rfl) ?_
    refine g_getr X w fg_X11_127 KD_80 FR_80_57 dX11_was_57 ?_
    refine lv_iload hx hb dX11_was_60 (lv_at hl 4 rfl) ?_
    obtain ⟨hg, hf⟩ := gd_some hf
    refine g_iald X w KD_116 hv4 hg dX11_was_62 ?_
    refine lv_iload_n hx hb dX11_was_63 rfl (lv_at hl 1 rfl) ?_
    refine g_icmp_ne (tgt := 86) X (w.2.2 _ _) hv1 dX11_was_64 (by decide) (fun cd_2 => ?_) (fun cd_2 => ?_)
    · replace hf := ite_f cd_2 hf
      obtain ⟨v4_2, ev4_2, hf⟩ := lt_some hf
      have hv4_2 : inR v4_2 := inR_of ev4_2 (inR_wrap _)
      refine lv_iinc (v := i2 v4_2) (lv' := [(4, .int (i2 v4_2)), (0, .ref (ad 80)), (1, .int (i2 v1)), (2, .int (i2 v2)), (3, .int (i2 v3))]) hx hb dX11_was_86 hl (k := 4) rfl (by rw [ev4_2]; exact i2_add _ _) (by decide) rfl (fun ls hl => ?_)
      refine lv_goto (tgt := 47) hx hb dX11_was_89 (by decide) ?_
      exact HC v3 v4_2 _ _ _ (Option.some.inj hf).symm hv3 hv4_2 (lv_sub hl [1, 2, 3, 4, 0] rfl) w
    · replace hf := ite_t cd_2 hf
      refine lv_aload_n hx hb dX11_was_67 rfl (lv_at hl 0 rfl) ?_
      refine g_getr X w fg_X11_130 KD_80 FR_80_58 dX11_was_68 ?_
      refine lv_iload hx hb dX11_was_71 (lv_at hl 4 rfl) ?_
      obtain ⟨hg_2, hf⟩ := gd_some hf
      refine g_iald X w KD_117 hv4 hg_2 dX11_was_73 ?_
      refine lv_iload_n hx hb dX11_was_74 rfl (lv_at hl 2 rfl) ?_
      refine g_icmp_gt (tgt := 86) X (w.2.2 _ _) hv2 dX11_was_75 (by decide) (fun cd_3 => ?_) (fun cd_3 => ?_)
      · replace hf := ite_t cd_3 hf
        obtain ⟨v4_3, ev4_3, hf⟩ := lt_some hf
        have hv4_3 : inR v4_3 := inR_of ev4_3 (inR_wrap _)
        refine lv_iinc (v := i2 v4_3) (lv' := [(4, .int (i2 v4_3)), (0, .ref (ad 80)), (1, .int (i2 v1)), (2, .int (i2 v2)), (3, .int (i2 v3))]) hx hb dX11_was_86 hl (k := 4) rfl (by rw [ev4_3]; exact i2_add _ _) (by decide) rfl (fun ls hl => ?_)
        refine lv_goto (tgt := 47) hx hb dX11_was_89 (by decide) ?_
        exact HC v3 v4_3 _ _ _ (Option.some.inj hf).symm hv3 hv4_3 (lv_sub hl [1, 2, 3, 4, 0] rfl) w
      · replace hf := ite_f cd_3 hf
        refine lv_aload_n hx hb dX11_was_78 rfl (lv_at hl 0 rfl) ?_
        refine g_getr X w fg_X11_133 KD_80 FR_80_59 dX11_was_79 ?_
        refine lv_iload hx hb dX11_was_82 (lv_at hl 4 rfl) ?_
        obtain ⟨hg_3, hf⟩ := gd_some hf
        refine g_iald X w KD_118 hv4 hg_3 dX11_was_84 ?_
        obtain ⟨v3_2, ev3_2, hf⟩ := lt_some hf
        have hv3_2 : inR v3_2 := inR_of ev3_2 (w.2.2 _ _)
        refine g_istn (v := v3_2) (lv' := [(3, .int (i2 v3_2)), (0, .ref (ad 80)), (1, .int (i2 v1)), (2, .int (i2 v2)), (4, .int (i2 v4))]) X ev3_2 dX11_was_85 rfl hl (by decide) rfl (fun ls hl => ?_)
        obtain ⟨v4_4, ev4_4, hf⟩ := lt_some hf
        have hv4_4 : inR v4_4 := inR_of ev4_4 (inR_wrap _)
        refine lv_iinc (v := i2 v4_4) (lv' := [(4, .int (i2 v4_4)), (3, .int (i2 v3_2)), (0, .ref (ad 80)), (1, .int (i2 v1)), (2, .int (i2 v2))]) hx hb dX11_was_86 hl (k := 4) rfl (by rw [ev4_4]; exact i2_add _ _) (by decide) rfl (fun ls hl => ?_)
        refine lv_goto (tgt := 47) hx hb dX11_was_89 (by decide) ?_
        exact HC v3_2 v4_4 _ _ _ (Option.some.inj hf).symm hv3_2 hv4_4 (lv_sub hl [2, 3, 4, 1, 0] rfl) w
set_option maxRecDepth 100000 in
set_option maxHeartbeats 4000000 in
theorem l_X11_was_47 (X : CX p s m args c cX11_was 5 RX11 D aC ad sg A H0) (v1 : Int) (hv1 : inR v1) (v2 : Int) (hv2 : inR v2) {M : Mem} {out : Int × Int} (HE : ∀ (y3 : Int) (y4 : Int) (H : Heap) (locs : List Loc) (ls : Array Slot), out = (y3, y4) → inR y3 → inR y4 → lv_has ls 5 [(0, .ref (ad 80)), (1, .int (i2 v1)), (2, .int (i2 v2)), (3, .int (i2 y3)), (4, .int (i2 y4))] → WS D aC ad A H0 M H locs → W p l e rm_X11_was s m args below meth c H locs 0 0 Q (F0 m 92 ls [])) : ∀ (n : Nat) (v3 : Int) (v4 : Int), whl (fun s => f_X11_was_s47 v1 v2 M s.1 s.2) n (v3, v4) = some out → inR v3 → inR v4 → ∀ {H : Heap} {locs : List Loc} {ls : Array Slot}, lv_has ls 5 [(0, .ref (ad 80)), (1, .int (i2 v1)), (2, .int (i2 v2)), (3, .int (i2 v3)), (4, .int (i2 v4))] → WS D aC ad A H0 M H locs → W p l e rm_X11_was s m args below meth c H locs 0 0 Q (F0 m 47 ls []) := by
  intro n
  induction n with
  | zero => intro v3 v4 hf; exact (whl_zero hf).elim
  | succ n ih =>
    intro v3 v4 hf hv3 hv4 H locs ls hl w
    obtain ⟨o, hf, hk1, hk2⟩ := whl_step hf
    exact b_X11_was_s47 X v1 hv1 v2 hv2 (fun y3 y4 H locs ls eo hy3 hy4 hl w => ih y3 y4 (hk1 _ eo) hy3 hy4 hl w) (fun y3 y4 H locs ls eo hy3 hy4 hl w => HE y3 y4 H locs ls (hk2 _ eo).symm hy3 hy4 hl w) v3 hv3 v4 hv4 hf hl w
set_option maxRecDepth 100000 in
set_option maxHeartbeats 4000000 in
theorem b_X11_was_j92 (X : CX p s m args c cX11_was 5 RX11 D aC ad sg A H0) {o : Int × Mem} (HR : ∀ (r : Int) (M1 : Mem) (H : Heap) (locs : List Loc) (pc : Nat) (ls : Array Slot), o = (r, M1) → inR r → WS D aC ad A H0 M1 H locs → decode cX11_was pc = .ok (.ireturn, 1) → W p l e rm_X11_was s m args below meth c H locs 0 0 Q (F0 m pc ls [.int (i2 r)])) (v3 : Int) (hv3 : inR v3) (M : Mem) (hf : f_X11_was_j92 v3 M = some o) {H : Heap} {locs : List Loc} {ls : Array Slot} (hl : lv_has ls 5 [(3, .int (i2 v3))]) (w : WS D aC ad A H0 M H locs) : W p l e rm_X11_was s m args below meth c H locs 0 0 Q (F0 m 92 ls []) := by
  have hx := X.1.1
  have hb := X.1.2.1
  unfold f_X11_was_j92 at hf
  refine lv_iload_n hx hb dX11_was_92 rfl (lv_at hl 0 rfl) ?_
  exact HR v3 M _ _ _ _ (Option.some.inj hf).symm hv3 w dX11_was_93
set_option maxRecDepth 100000 in
set_option maxHeartbeats 4000000 in
theorem b_X11_was_0 (X : CX p s m args c cX11_was 5 RX11 D aC ad sg A H0) {o : Int × Mem} (HR : ∀ (r : Int) (M1 : Mem) (H : Heap) (locs : List Loc) (pc : Nat) (ls : Array Slot), o = (r, M1) → inR r → WS D aC ad A H0 M1 H locs → decode cX11_was pc = .ok (.ireturn, 1) → W p l e rm_X11_was s m args below meth c H locs 0 0 Q (F0 m pc ls [.int (i2 r)])) (p1 : Int) (hp1 : inR p1) (p2 : Int) (hp2 : inR p2) (M : Mem) (hf : f_X11_was p1 p2 M = some o) {H : Heap} {locs : List Loc} {ls : Array Slot} (hl : lv_has ls 5 [(0, .ref (ad 80)), (1, .int (i2 p1)), (2, .int (i2 p2))]) (w : WS D aC ad A H0 M H locs) : W p l e rm_X11_was s m args below meth c H locs 0 0 Q (F0 m 0 ls []) := by
  have hx := X.1.1
  have hb := X.1.2.1
  unfold f_X11_was at hf
  refine lv_aload_n hx hb dX11_was_0 rfl (lv_at hl 0 rfl) ?_
  refine g_iconst X dX11_was_1 ?_
  obtain ⟨M_2, eM_2, hf⟩ := lt_some hf
  refine g_puti X w fp_X11_139 KD_80 FR_80_0 (inL rfl) dX11_was_2 (fun H locs w_M_2 => ?_)
  rw [← eM_2] at w_M_2
  refine lv_aload_n hx hb dX11_was_5 rfl (lv_at hl 0 rfl) ?_
  refine lv_iload_n hx hb dX11_was_6 rfl (lv_at hl 1 rfl) ?_
  obtain ⟨r, hc, hf⟩ := obn_some hf
  refine g_cvi (As := [.int (i2 p1)]) (rest := []) X w_M_2 (k_X11_isChild X.2.2.1 p1 hp1 w_M_2.2.2 hc) lk_X11_149 cl_11 KD_80 ⟨rfl, rfl⟩ ⟨nle rfl, nle rfl⟩ ⟨nle rfl, nle rfl⟩ hl.1 rfl (nle rfl) dX11_was_7 (fun hr H locs w_M_2 => ?_)
  refine g_if_eq (tgt := 25) X hr dX11_was_10 (by decide) (fun cd => ?_) (fun cd => ?_)
  · replace hf := ite_t cd hf
    refine g_iconst X dX11_was_25 ?_
    exact HR (-1) M_2 _ _ _ _ (Option.some.inj hf).symm (inL rfl) w_M_2 dX11_was_26
  · replace hf := ite_f cd hf
    refine lv_iload_n hx hb dX11_was_13 rfl (lv_at hl 2 rfl) ?_
    refine g_iconst X dX11_was_14 ?_
    refine lv_aload_n hx hb dX11_was_15 rfl (lv_at hl 0 rfl) ?_
    refine g_geti X w_M_2 fg_X11_153 KD_80 FR_80_14 dX11_was_16 ?_
    obtain ⟨r_2, hc, hf⟩ := obn_some hf
    refine g_csi (As := [.int (i2 p2), .int (i2 0), .int (i2 (M_2 80 14))]) (rest := []) X w_M_2 (k_X11_within X.2.2.1 p2 hp2 0 (inL rfl) (M_2 80 14) (w_M_2.2.2 _ _) w_M_2.2.2 hc) lk_X11_145 ⟨rfl, rfl⟩ ⟨nle rfl, nle rfl⟩ ⟨nle rfl, nle rfl⟩ hl.1 rfl (nle rfl) dX11_was_19 (fun hr_2 H locs w_M_2 => ?_)
    refine g_if_ne (tgt := 27) X hr_2 dX11_was_22 (by decide) (fun cd_2 => ?_) (fun cd_2 => ?_)
    · replace hf := ite_f cd_2 hf
      refine lv_iload_n hx hb dX11_was_27 rfl (lv_at hl 2 rfl) ?_
      refine lv_aload_n hx hb dX11_was_28 rfl (lv_at hl 0 rfl) ?_
      refine g_geti X w_M_2 fg_X11_153 KD_80 FR_80_14 dX11_was_29 ?_
      refine g_icmp_ne (tgt := 42) X hp2 (w_M_2.2.2 _ _) dX11_was_32 (by decide) (fun cd_3 => ?_) (fun cd_3 => ?_)
      · replace hf := ite_f cd_3 hf
        refine g_iconst X dX11_was_42 ?_
        refine g_istn (v := (-1)) (lv' := [(3, .int (i2 (-1))), (0, .ref (ad 80)), (1, .int (i2 p1)), (2, .int (i2 p2))]) X rfl dX11_was_43 rfl hl (by decide) rfl (fun ls hl => ?_)
        refine g_iconst X dX11_was_44 ?_
        refine g_ist (v := 0) (lv' := [(4, .int (i2 0)), (3, .int (i2 (-1))), (0, .ref (ad 80)), (1, .int (i2 p1)), (2, .int (i2 p2))]) X rfl dX11_was_45 hl (by decide) rfl (fun ls hl => ?_)
        obtain ⟨q, hq, h1⟩ := obn_some hf
        exact l_X11_was_47 X p1 hp1 p2 hp2 (out := q) (fun y3 y4 H locs ls eq hy3 hy4 hl w => b_X11_was_j92 X  HR y3 hy3 M_2 (by subst eq; exact h1) (lv_sub hl [3] rfl) w)  FU (-1) 0 hq (inL rfl) (inL rfl) (lv_sub hl [2, 3, 4, 1, 0] rfl) w_M_2
      · replace hf := ite_t cd_3 hf
        refine lv_aload_n hx hb dX11_was_35 rfl (lv_at hl 0 rfl) ?_
        refine g_getr X w_M_2 fg_X11_106 KD_80 FR_80_47 dX11_was_36 ?_
        refine lv_iload_n hx hb dX11_was_39 rfl (lv_at hl 1 rfl) ?_
        obtain ⟨hg, hf⟩ := gd_some hf
        refine g_iald X w_M_2 KD_110 hp1 hg dX11_was_40 ?_
        exact HR (M_2 110 p1.toNat) M_2 _ _ _ _ (Option.some.inj hf).symm (w_M_2.2.2 _ _) w_M_2 dX11_was_41
    · replace hf := ite_t cd_2 hf
      refine g_iconst X dX11_was_25 ?_
      exact HR (-1) M_2 _ _ _ _ (Option.some.inj hf).symm (inL rfl) w_M_2 dX11_was_26
set_option maxRecDepth 100000 in
set_option maxHeartbeats 4000000 in
theorem k_X11_was {l : Launch} {D : va_G} {aC : Nat → ClassId} {ad : Nat → Nat} {sg : SG} (hi : Inj ad) (p1 : Int) (hp1 : inR p1) (p2 : Int) (hp2 : inR p2) {M : Mem} (hM : inM M) {r : Int} {M' : Mem} (hf : f_X11_was p1 p2 M = some (r, M')) : MetI l D aC ad sg yX11_was cX11_was 5 (some .int) rm_X11_was 0 0 [.ref (ad 80), .int (i2 p1), .int (i2 p2)] M r M' := by
  refine MetI.ofI (by decide +kernel) (nle rfl) hi hM (fun p e s m args below meth c Q H0 ls X hl w hret => ?_)
  exact b_X11_was_0 X  (fun r1 M1 H locs pc ls eo hP w dg => by cases eo; exact hret H locs pc ls hP w dg) p1 hp1 p2 hp2 M hf hl w
set_option maxRecDepth 100000 in
set_option maxHeartbeats 4000000 in
theorem b_X11_served_0 (X : CX p s m args c cX11_served 2 RX11 D aC ad sg A H0) {o : Int × Mem} (HR : ∀ (r : Int) (M1 : Mem) (H : Heap) (locs : List Loc) (pc : Nat) (ls : Array Slot), o = (r, M1) → inR r → WS D aC ad A H0 M1 H locs → decode cX11_served pc = .ok (.ireturn, 1) → W p l e rm_X11_served s m args below meth c H locs 0 0 Q (F0 m pc ls [.int (i2 r)])) (p1 : Int) (hp1 : inR p1) (M : Mem) (hf : f_X11_served p1 M = some o) {H : Heap} {locs : List Loc} {ls : Array Slot} (hl : lv_has ls 2 [(0, .ref (ad 80)), (1, .int (i2 p1))]) (w : WS D aC ad A H0 M H locs) : W p l e rm_X11_served s m args below meth c H locs 0 0 Q (F0 m 0 ls []) := by
  have hx := X.1.1
  have hb := X.1.2.1
  unfold f_X11_served at hf
  refine lv_aload_n hx hb dX11_served_0 rfl (lv_at hl 0 rfl) ?_
  refine g_iconst X dX11_served_1 ?_
  obtain ⟨M_2, eM_2, hf⟩ := lt_some hf
  refine g_puti X w fp_X11_139 KD_80 FR_80_0 (inL rfl) dX11_served_2 (fun H locs w_M_2 => ?_)
  rw [← eM_2] at w_M_2
  refine lv_aload_n hx hb dX11_served_5 rfl (lv_at hl 0 rfl) ?_
  refine lv_iload_n hx hb dX11_served_6 rfl (lv_at hl 1 rfl) ?_
  obtain ⟨r, hc, hf⟩ := obn_some hf
  refine g_cvi (As := [.int (i2 p1)]) (rest := []) X w_M_2 (k_X11_isChild X.2.2.1 p1 hp1 w_M_2.2.2 hc) lk_X11_149 cl_11 KD_80 ⟨rfl, rfl⟩ ⟨nle rfl, nle rfl⟩ ⟨nle rfl, nle rfl⟩ hl.1 rfl (nle rfl) dX11_served_7 (fun hr H locs w_M_2 => ?_)
  refine g_if_eq (tgt := 23) X hr dX11_served_10 (by decide) (fun cd => ?_) (fun cd => ?_)
  · replace hf := ite_t cd hf
    refine g_iconst X dX11_served_23 ?_
    exact HR (-1) M_2 _ _ _ _ (Option.some.inj hf).symm (inL rfl) w_M_2 dX11_served_24
  · replace hf := ite_f cd hf
    refine lv_aload_n hx hb dX11_served_13 rfl (lv_at hl 0 rfl) ?_
    refine g_getr X w_M_2 fg_X11_106 KD_80 FR_80_47 dX11_served_14 ?_
    refine lv_iload_n hx hb dX11_served_17 rfl (lv_at hl 1 rfl) ?_
    obtain ⟨hg, hf⟩ := gd_some hf
    refine g_iald X w_M_2 KD_110 hp1 hg dX11_served_18 ?_
    refine g_iconst X dX11_served_19 ?_
    refine g_icmp_ne (tgt := 25) X (w_M_2.2.2 _ _) (inL rfl) dX11_served_20 (by decide) (fun cd_2 => ?_) (fun cd_2 => ?_)
    · replace hf := ite_f cd_2 hf
      refine lv_aload_n hx hb dX11_served_25 rfl (lv_at hl 0 rfl) ?_
      obtain ⟨M_3, hc, hf⟩ := obn_some hf
      refine g_cvv (As := []) (rest := []) X w_M_2 (k_X11_looks X.2.2.1  w_M_2.2.2 hc) lk_X11_381 cl_11 KD_80 ⟨rfl, rfl⟩ ⟨nle rfl, nle rfl⟩ ⟨nle rfl, nle rfl⟩ hl.1 rfl (nle rfl) dX11_served_26 (fun H locs w_M_3 => ?_)
      refine lv_aload_n hx hb dX11_served_29 rfl (lv_at hl 0 rfl) ?_
      refine lv_iload_n hx hb dX11_served_30 rfl (lv_at hl 1 rfl) ?_
      obtain ⟨r_2, hc, hf⟩ := obn_some hf
      refine g_cvi (As := [.int (i2 p1)]) (rest := []) X w_M_3 (k_X11_servedIn X.2.2.1 p1 hp1 w_M_3.2.2 hc) lk_X11_337 cl_11 KD_80 ⟨rfl, rfl⟩ ⟨nle rfl, nle rfl⟩ ⟨nle rfl, nle rfl⟩ hl.1 rfl (nle rfl) dX11_served_31 (fun hr_2 H locs w_M_3 => ?_)
      exact HR r_2 M_3 _ _ _ _ (Option.some.inj hf).symm hr_2 w_M_3 dX11_served_34
    · replace hf := ite_t cd_2 hf
      refine g_iconst X dX11_served_23 ?_
      exact HR (-1) M_2 _ _ _ _ (Option.some.inj hf).symm (inL rfl) w_M_2 dX11_served_24
set_option maxRecDepth 100000 in
set_option maxHeartbeats 4000000 in
theorem k_X11_served {l : Launch} {D : va_G} {aC : Nat → ClassId} {ad : Nat → Nat} {sg : SG} (hi : Inj ad) (p1 : Int) (hp1 : inR p1) {M : Mem} (hM : inM M) {r : Int} {M' : Mem} (hf : f_X11_served p1 M = some (r, M')) : MetI l D aC ad sg yX11_served cX11_served 2 (some .int) rm_X11_served 0 0 [.ref (ad 80), .int (i2 p1)] M r M' := by
  refine MetI.ofI (by decide +kernel) (nle rfl) hi hM (fun p e s m args below meth c Q H0 ls X hl w hret => ?_)
  exact b_X11_served_0 X  (fun r1 M1 H locs pc ls eo hP w dg => by cases eo; exact hret H locs pc ls hP w dg) p1 hp1 M hf hl w
set_option maxRecDepth 100000 in
set_option maxHeartbeats 4000000 in
theorem b_X11_harm_0 (X : CX p s m args c cX11_harm 2 RX11 D aC ad sg A H0) {o : Int × Mem} (HR : ∀ (r : Int) (M1 : Mem) (H : Heap) (locs : List Loc) (pc : Nat) (ls : Array Slot), o = (r, M1) → inR r → WS D aC ad A H0 M1 H locs → decode cX11_harm pc = .ok (.ireturn, 1) → W p l e rm_X11_harm s m args below meth c H locs 0 0 Q (F0 m pc ls [.int (i2 r)])) (p1 : Int) (hp1 : inR p1) (M : Mem) (hf : f_X11_harm p1 M = some o) {H : Heap} {locs : List Loc} {ls : Array Slot} (hl : lv_has ls 2 [(0, .ref (ad 80)), (1, .int (i2 p1))]) (w : WS D aC ad A H0 M H locs) : W p l e rm_X11_harm s m args below meth c H locs 0 0 Q (F0 m 0 ls []) := by
  have hx := X.1.1
  have hb := X.1.2.1
  unfold f_X11_harm at hf
  refine lv_aload_n hx hb dX11_harm_0 rfl (lv_at hl 0 rfl) ?_
  refine g_iconst X dX11_harm_1 ?_
  obtain ⟨M_2, eM_2, hf⟩ := lt_some hf
  refine g_puti X w fp_X11_139 KD_80 FR_80_0 (inL rfl) dX11_harm_2 (fun H locs w_M_2 => ?_)
  rw [← eM_2] at w_M_2
  refine lv_aload_n hx hb dX11_harm_5 rfl (lv_at hl 0 rfl) ?_
  obtain ⟨r, hc, hf⟩ := obn_some hf
  refine g_cvi (As := []) (rest := []) X w_M_2 (k_X11_listed X.2.2.1  w_M_2.2.2 hc) lk_X11_384 cl_11 KD_80 ⟨rfl, rfl⟩ ⟨nle rfl, nle rfl⟩ ⟨nle rfl, nle rfl⟩ hl.1 rfl (nle rfl) dX11_harm_6 (fun hr H locs w_M_2 => ?_)
  refine g_if_eq (tgt := 26) X hr dX11_harm_9 (by decide) (fun cd => ?_) (fun cd => ?_)
  · replace hf := ite_t cd hf
    refine g_iconst X dX11_harm_26 ?_
    exact HR (-1) M_2 _ _ _ _ (Option.some.inj hf).symm (inL rfl) w_M_2 dX11_harm_27
  · replace hf := ite_f cd hf
    refine lv_iload_n hx hb dX11_harm_12 rfl (lv_at hl 1 rfl) ?_
    refine g_iconst X dX11_harm_13 ?_
    refine lv_aload_n hx hb dX11_harm_14 rfl (lv_at hl 0 rfl) ?_
    refine g_geti X w_M_2 fg_X11_307 KD_80 FR_80_21 dX11_harm_15 ?_
    refine g_iconst X dX11_harm_18 ?_
    refine g_isub X dX11_harm_19 ?_
    obtain ⟨r_2, hc, hf⟩ := obn_some hf
    refine g_csi (As := [.int (i2 p1), .int (i2 (-1)), .int (i2 (wrap ((M_2 80 21) - 1)))]) (rest := []) X w_M_2 (k_X11_within X.2.2.1 p1 hp1 (-1) (inL rfl) (wrap ((M_2 80 21) - 1)) (inR_wrap _) w_M_2.2.2 hc) lk_X11_145 ⟨rfl, rfl⟩ ⟨nle rfl, nle rfl⟩ ⟨nle rfl, nle rfl⟩ hl.1 rfl (nle rfl) dX11_harm_20 (fun hr_2 H locs w_M_2 => ?_)
    refine g_if_ne (tgt := 28) X hr_2 dX11_harm_23 (by decide) (fun cd_2 => ?_) (fun cd_2 => ?_)
    · replace hf := ite_f cd_2 hf
      refine lv_aload_n hx hb dX11_harm_28 rfl (lv_at hl 0 rfl) ?_
      obtain ⟨M_3, hc, hf⟩ := obn_some hf
      refine g_cvv (As := []) (rest := []) X w_M_2 (k_X11_looks X.2.2.1  w_M_2.2.2 hc) lk_X11_381 cl_11 KD_80 ⟨rfl, rfl⟩ ⟨nle rfl, nle rfl⟩ ⟨nle rfl, nle rfl⟩ hl.1 rfl (nle rfl) dX11_harm_29 (fun H locs w_M_3 => ?_)
      refine lv_iload_n hx hb dX11_harm_32 rfl (lv_at hl 1 rfl) ?_
      refine g_iconst X dX11_harm_33 ?_
      refine g_icmp_ne (tgt := 44) X hp1 (inL rfl) dX11_harm_34 (by decide) (fun cd_3 => ?_) (fun cd_3 => ?_)
      · replace hf := ite_f cd_3 hf
        refine lv_aload_n hx hb dX11_harm_44 rfl (lv_at hl 0 rfl) ?_
        refine lv_iload_n hx hb dX11_harm_45 rfl (lv_at hl 1 rfl) ?_
        obtain ⟨r_3, hc, hf⟩ := obn_some hf
        refine g_cvi (As := [.int (i2 p1)]) (rest := []) X w_M_3 (k_X11_harmOf X.2.2.1 p1 hp1 w_M_3.2.2 hc) lk_X11_340 cl_11 KD_80 ⟨rfl, rfl⟩ ⟨nle rfl, nle rfl⟩ ⟨nle rfl, nle rfl⟩ hl.1 rfl (nle rfl) dX11_harm_46 (fun hr_3 H locs w_M_3 => ?_)
        exact HR r_3 M_3 _ _ _ _ (Option.some.inj hf).symm hr_3 w_M_3 dX11_harm_49
      · replace hf := ite_t cd_3 hf
        refine lv_aload_n hx hb dX11_harm_37 rfl (lv_at hl 0 rfl) ?_
        obtain ⟨r_4, hc, hf⟩ := obn_some hf
        refine g_cvi (As := []) (rest := []) X w_M_3 (k_X11_allHarm X.2.2.1  w_M_3.2.2 hc) lk_X11_358 cl_11 KD_80 ⟨rfl, rfl⟩ ⟨nle rfl, nle rfl⟩ ⟨nle rfl, nle rfl⟩ hl.1 rfl (nle rfl) dX11_harm_38 (fun hr_4 H locs w_M_3 => ?_)
        refine lv_goto (tgt := 49) hx hb dX11_harm_41 (by decide) ?_
        exact HR r_4 M_3 _ _ _ _ (Option.some.inj hf).symm hr_4 w_M_3 dX11_harm_49
    · replace hf := ite_t cd_2 hf
      refine g_iconst X dX11_harm_26 ?_
      exact HR (-1) M_2 _ _ _ _ (Option.some.inj hf).symm (inL rfl) w_M_2 dX11_harm_27
set_option maxRecDepth 100000 in
set_option maxHeartbeats 4000000 in
theorem k_X11_harm {l : Launch} {D : va_G} {aC : Nat → ClassId} {ad : Nat → Nat} {sg : SG} (hi : Inj ad) (p1 : Int) (hp1 : inR p1) {M : Mem} (hM : inM M) {r : Int} {M' : Mem} (hf : f_X11_harm p1 M = some (r, M')) : MetI l D aC ad sg yX11_harm cX11_harm 2 (some .int) rm_X11_harm 0 0 [.ref (ad 80), .int (i2 p1)] M r M' := by
  refine MetI.ofI (by decide +kernel) (nle rfl) hi hM (fun p e s m args below meth c Q H0 ls X hl w hret => ?_)
  exact b_X11_harm_0 X  (fun r1 M1 H locs pc ls eo hP w dg => by cases eo; exact hret H locs pc ls hP w dg) p1 hp1 M hf hl w
set_option maxRecDepth 100000 in
set_option maxHeartbeats 4000000 in
theorem b_X11_allowed_0 (X : CX p s m args c cX11_allowed 2 RX11 D aC ad sg A H0) {o : Int × Mem} (HR : ∀ (r : Int) (M1 : Mem) (H : Heap) (locs : List Loc) (pc : Nat) (ls : Array Slot), o = (r, M1) → inR r → WS D aC ad A H0 M1 H locs → decode cX11_allowed pc = .ok (.ireturn, 1) → W p l e rm_X11_allowed s m args below meth c H locs 0 0 Q (F0 m pc ls [.int (i2 r)])) (p1 : Int) (hp1 : inR p1) (M : Mem) (hf : f_X11_allowed p1 M = some o) {H : Heap} {locs : List Loc} {ls : Array Slot} (hl : lv_has ls 2 [(0, .ref (ad 80)), (1, .int (i2 p1))]) (w : WS D aC ad A H0 M H locs) : W p l e rm_X11_allowed s m args below meth c H locs 0 0 Q (F0 m 0 ls []) := by
  have hx := X.1.1
  have hb := X.1.2.1
  unfold f_X11_allowed at hf
  refine lv_aload_n hx hb dX11_allowed_0 rfl (lv_at hl 0 rfl) ?_
  refine g_iconst X dX11_allowed_1 ?_
  obtain ⟨M_2, eM_2, hf⟩ := lt_some hf
  refine g_puti X w fp_X11_139 KD_80 FR_80_0 (inL rfl) dX11_allowed_2 (fun H locs w_M_2 => ?_)
  rw [← eM_2] at w_M_2
  refine lv_aload_n hx hb dX11_allowed_5 rfl (lv_at hl 0 rfl) ?_
  obtain ⟨r, hc, hf⟩ := obn_some hf
  refine g_cvi (As := []) (rest := []) X w_M_2 (k_X11_listed X.2.2.1  w_M_2.2.2 hc) lk_X11_384 cl_11 KD_80 ⟨rfl, rfl⟩ ⟨nle rfl, nle rfl⟩ ⟨nle rfl, nle rfl⟩ hl.1 rfl (nle rfl) dX11_allowed_6 (fun hr H locs w_M_2 => ?_)
  refine g_if_eq (tgt := 21) X hr dX11_allowed_9 (by decide) (fun cd => ?_) (fun cd => ?_)
  · replace hf := ite_t cd hf
    refine g_iconst X dX11_allowed_21 ?_
    exact HR (-1) M_2 _ _ _ _ (Option.some.inj hf).symm (inL rfl) w_M_2 dX11_allowed_22
  · replace hf := ite_f cd hf
    refine lv_iload_n hx hb dX11_allowed_12 rfl (lv_at hl 1 rfl) ?_
    refine g_iconst X dX11_allowed_13 ?_
    refine g_iconst X dX11_allowed_14 ?_
    obtain ⟨r_2, hc, hf⟩ := obn_some hf
    refine g_csi (As := [.int (i2 p1), .int (i2 0), .int (i2 1)]) (rest := []) X w_M_2 (k_X11_within X.2.2.1 p1 hp1 0 (inL rfl) 1 (inL rfl) w_M_2.2.2 hc) lk_X11_145 ⟨rfl, rfl⟩ ⟨nle rfl, nle rfl⟩ ⟨nle rfl, nle rfl⟩ hl.1 rfl (nle rfl) dX11_allowed_15 (fun hr_2 H locs w_M_2 => ?_)
    refine g_if_ne (tgt := 23) X hr_2 dX11_allowed_18 (by decide) (fun cd_2 => ?_) (fun cd_2 => ?_)
    · replace hf := ite_f cd_2 hf
      refine lv_aload_n hx hb dX11_allowed_23 rfl (lv_at hl 0 rfl) ?_
      obtain ⟨M_3, hc, hf⟩ := obn_some hf
      refine g_cvv (As := []) (rest := []) X w_M_2 (k_X11_looks X.2.2.1  w_M_2.2.2 hc) lk_X11_381 cl_11 KD_80 ⟨rfl, rfl⟩ ⟨nle rfl, nle rfl⟩ ⟨nle rfl, nle rfl⟩ hl.1 rfl (nle rfl) dX11_allowed_24 (fun H locs w_M_3 => ?_)
      refine lv_iload_n hx hb dX11_allowed_27 rfl (lv_at hl 1 rfl) ?_
      refine g_iconst X dX11_allowed_28 ?_
      refine g_icmp_ne (tgt := 39) X hp1 (inL rfl) dX11_allowed_29 (by decide) (fun cd_3 => ?_) (fun cd_3 => ?_)
      · replace hf := ite_f cd_3 hf
        refine lv_aload_n hx hb dX11_allowed_39 rfl (lv_at hl 0 rfl) ?_
        obtain ⟨r_3, hc, hf⟩ := obn_some hf
        refine g_cvi (As := []) (rest := []) X w_M_3 (k_X11_isSound X.2.2.1  w_M_3.2.2 hc) lk_X11_352 cl_11 KD_80 ⟨rfl, rfl⟩ ⟨nle rfl, nle rfl⟩ ⟨nle rfl, nle rfl⟩ hl.1 rfl (nle rfl) dX11_allowed_40 (fun hr_3 H locs w_M_3 => ?_)
        refine g_if_eq (tgt := 57) X hr_3 dX11_allowed_43 (by decide) (fun cd_4 => ?_) (fun cd_4 => ?_)
        · replace hf := ite_t cd_4 hf
          refine g_iconst X dX11_allowed_57 ?_
          exact HR 0 M_3 _ _ _ _ (Option.some.inj hf).symm (inL rfl) w_M_3 dX11_allowed_58
        · replace hf := ite_f cd_4 hf
          refine lv_aload_n hx hb dX11_allowed_46 rfl (lv_at hl 0 rfl) ?_
          obtain ⟨r_4, hc, hf⟩ := obn_some hf
          refine g_cvi (As := []) (rest := []) X w_M_3 (k_X11_lack X.2.2.1  w_M_3.2.2 hc) lk_X11_355 cl_11 KD_80 ⟨rfl, rfl⟩ ⟨nle rfl, nle rfl⟩ ⟨nle rfl, nle rfl⟩ hl.1 rfl (nle rfl) dX11_allowed_47 (fun hr_4 H locs w_M_3 => ?_)
          refine g_if_ne (tgt := 57) X hr_4 dX11_allowed_50 (by decide) (fun cd_5 => ?_) (fun cd_5 => ?_)
          · replace hf := ite_f cd_5 hf
            refine g_iconst X dX11_allowed_57 ?_
            exact HR 0 M_3 _ _ _ _ (Option.some.inj hf).symm (inL rfl) w_M_3 dX11_allowed_58
          · replace hf := ite_t cd_5 hf
            refine g_iconst X dX11_allowed_53 ?_
            refine lv_goto (tgt := 58) hx hb dX11_allowed_54 (by decide) ?_
            exact HR 1 M_3 _ _ _ _ (Option.some.inj hf).symm (inL rfl) w_M_3 dX11_allowed_58
      · replace hf := ite_t cd_3 hf
        refine lv_aload_n hx hb dX11_allowed_32 rfl (lv_at hl 0 rfl) ?_
        obtain ⟨r_5, hc, hf⟩ := obn_some hf
        refine g_cvi (As := []) (rest := []) X w_M_3 (k_X11_lack X.2.2.1  w_M_3.2.2 hc) lk_X11_355 cl_11 KD_80 ⟨rfl, rfl⟩ ⟨nle rfl, nle rfl⟩ ⟨nle rfl, nle rfl⟩ hl.1 rfl (nle rfl) dX11_allowed_33 (fun hr_5 H locs w_M_3 => ?_)
        refine lv_goto (tgt := 58) hx hb dX11_allowed_36 (by decide) ?_
        exact HR r_5 M_3 _ _ _ _ (Option.some.inj hf).symm hr_5 w_M_3 dX11_allowed_58
    · replace hf := ite_t cd_2 hf
      refine g_iconst X dX11_allowed_21 ?_
      exact HR (-1) M_2 _ _ _ _ (Option.some.inj hf).symm (inL rfl) w_M_2 dX11_allowed_22
set_option maxRecDepth 100000 in
set_option maxHeartbeats 4000000 in
theorem k_X11_allowed {l : Launch} {D : va_G} {aC : Nat → ClassId} {ad : Nat → Nat} {sg : SG} (hi : Inj ad) (p1 : Int) (hp1 : inR p1) {M : Mem} (hM : inM M) {r : Int} {M' : Mem} (hf : f_X11_allowed p1 M = some (r, M')) : MetI l D aC ad sg yX11_allowed cX11_allowed 2 (some .int) rm_X11_allowed 0 0 [.ref (ad 80), .int (i2 p1)] M r M' := by
  refine MetI.ofI (by decide +kernel) (nle rfl) hi hM (fun p e s m args below meth c Q H0 ls X hl w hret => ?_)
  exact b_X11_allowed_0 X  (fun r1 M1 H locs pc ls eo hP w dg => by cases eo; exact hret H locs pc ls hP w dg) p1 hp1 M hf hl w
set_option maxRecDepth 100000 in
set_option maxHeartbeats 4000000 in
theorem b_X11_isGain_0 (X : CX p s m args c cX11_isGain 6 RX11 D aC ad sg A H0) {o : Int × Mem} (HR : ∀ (r : Int) (M1 : Mem) (H : Heap) (locs : List Loc) (pc : Nat) (ls : Array Slot), o = (r, M1) → isZ r → WS D aC ad A H0 M1 H locs → decode cX11_isGain pc = .ok (.ireturn, 1) → W p l e rm_X11_isGain s m args below meth c H locs 0 0 Q (F0 m pc ls [.int (i2 r)])) (p1 : Int) (hp1 : inR p1) (p2 : Int) (hp2 : inR p2) (M : Mem) (hf : f_X11_isGain p1 p2 M = some o) {H : Heap} {locs : List Loc} {ls : Array Slot} (hl : lv_has ls 6 [(0, .ref (ad 80)), (1, .int (i2 p1)), (2, .int (i2 p2))]) (w : WS D aC ad A H0 M H locs) : W p l e rm_X11_isGain s m args below meth c H locs 0 0 Q (F0 m 0 ls []) := by
  have hx := X.1.1
  have hb := X.1.2.1
  unfold f_X11_isGain at hf
  refine lv_aload_n hx hb dX11_isGain_0 rfl (lv_at hl 0 rfl) ?_
  refine g_getr X w fg_X11_100 KD_80 FR_80_41 dX11_isGain_1 ?_
  refine lv_iload_n hx hb dX11_isGain_4 rfl (lv_at hl 1 rfl) ?_
  obtain ⟨hg, hf⟩ := gd_some hf
  refine g_iald X w KD_108 hp1 hg dX11_isGain_5 ?_
  refine g_iconst X dX11_isGain_6 ?_
  refine g_icmp_eq (tgt := 35) X (w.2.2 _ _) (inL rfl) dX11_isGain_7 (by decide) (fun cd => ?_) (fun cd => ?_)
  · replace hf := ite_t cd hf
    refine g_iconst X dX11_isGain_35 ?_
    exact HR 0 M _ _ _ _ (Option.some.inj hf).symm (Or.inl rfl) w dX11_isGain_36
  · replace hf := ite_f cd hf
    refine lv_aload_n hx hb dX11_isGain_10 rfl (lv_at hl 0 rfl) ?_
    refine g_getr X w fg_X11_100 KD_80 FR_80_41 dX11_isGain_11 ?_
    refine lv_iload_n hx hb dX11_isGain_14 rfl (lv_at hl 2 rfl) ?_
    obtain ⟨hg_2, hf⟩ := gd_some hf
    refine g_iald X w KD_108 hp2 hg_2 dX11_isGain_15 ?_
    refine g_iconst X dX11_isGain_16 ?_
    refine g_icmp_eq (tgt := 35) X (w.2.2 _ _) (inL rfl) dX11_isGain_17 (by decide) (fun cd_2 => ?_) (fun cd_2 => ?_)
    · replace hf := ite_t cd_2 hf
      refine g_iconst X dX11_isGain_35 ?_
      exact HR 0 M _ _ _ _ (Option.some.inj hf).symm (Or.inl rfl) w dX11_isGain_36
    · replace hf := ite_f cd_2 hf
      refine lv_aload_n hx hb dX11_isGain_20 rfl (lv_at hl 0 rfl) ?_
      refine g_getr X w fg_X11_100 KD_80 FR_80_41 dX11_isGain_21 ?_
      refine lv_iload_n hx hb dX11_isGain_24 rfl (lv_at hl 1 rfl) ?_
      obtain ⟨hg_3, hf⟩ := gd_some hf
      refine g_iald X w KD_108 hp1 hg_3 dX11_isGain_25 ?_
      refine lv_aload_n hx hb dX11_isGain_26 rfl (lv_at hl 0 rfl) ?_
      refine g_getr X w fg_X11_100 KD_80 FR_80_41 dX11_isGain_27 ?_
      refine lv_iload_n hx hb dX11_isGain_30 rfl (lv_at hl 2 rfl) ?_
      obtain ⟨hg_4, hf⟩ := gd_some hf
      refine g_iald X w KD_108 hp2 hg_4 dX11_isGain_31 ?_
      refine g_icmp_ne (tgt := 37) X (w.2.2 _ _) (w.2.2 _ _) dX11_isGain_32 (by decide) (fun cd_3 => ?_) (fun cd_3 => ?_)
      · replace hf := ite_f cd_3 hf
        refine lv_aload_n hx hb dX11_isGain_37 rfl (lv_at hl 0 rfl) ?_
        refine lv_iload_n hx hb dX11_isGain_38 rfl (lv_at hl 1 rfl) ?_
        obtain ⟨r, hc, hf⟩ := obn_some hf
        refine g_cvi (As := [.int (i2 p1)]) (rest := []) X w (k_X11_servedIn X.2.2.1 p1 hp1 w.2.2 hc) lk_X11_337 cl_11 KD_80 ⟨rfl, rfl⟩ ⟨nle rfl, nle rfl⟩ ⟨nle rfl, nle rfl⟩ hl.1 rfl (nle rfl) dX11_isGain_39 (fun hr H locs w => ?_)
        refine g_istn (v := r) (lv' := [(3, .int (i2 r)), (0, .ref (ad 80)), (1, .int (i2 p1)), (2, .int (i2 p2))]) X rfl dX11_isGain_42 rfl hl (by decide) rfl (fun ls hl => ?_)
        refine lv_aload_n hx hb dX11_isGain_43 rfl (lv_at hl 1 rfl) ?_
        refine lv_iload_n hx hb dX11_isGain_44 rfl (lv_at hl 3 rfl) ?_
        obtain ⟨r_2, hc, hf⟩ := obn_some hf
        refine g_cvi (As := [.int (i2 p2)]) (rest := []) X w (k_X11_servedIn X.2.2.1 p2 hp2 w.2.2 hc) lk_X11_337 cl_11 KD_80 ⟨rfl, rfl⟩ ⟨nle rfl, nle rfl⟩ ⟨nle rfl, nle rfl⟩ hl.1 rfl (nle rfl) dX11_isGain_45 (fun hr_2 H locs w => ?_)
        refine g_ist (v := r_2) (lv' := [(4, .int (i2 r_2)), (3, .int (i2 r)), (0, .ref (ad 80)), (1, .int (i2 p1)), (2, .int (i2 p2))]) X rfl dX11_isGain_48 hl (by decide) rfl (fun ls hl => ?_)
        refine lv_aload_n hx hb dX11_isGain_50 rfl (lv_at hl 2 rfl) ?_
        refine lv_iload_n hx hb dX11_isGain_51 rfl (lv_at hl 3 rfl) ?_
        refine lv_iload_n hx hb dX11_isGain_52 rfl (lv_at hl 4 rfl) ?_
        obtain ⟨M_2, hc, hf⟩ := obn_some hf
        refine g_cvv (As := [.int (i2 p1), .int (i2 p2)]) (rest := []) X w (k_X11_swaps X.2.2.1 p1 hp1 p2 hp2 w.2.2 hc) lk_X11_377 cl_11 KD_80 ⟨rfl, rfl⟩ ⟨nle rfl, nle rfl⟩ ⟨nle rfl, nle rfl⟩ hl.1 rfl (nle rfl) dX11_isGain_53 (fun H locs w_M_2 => ?_)
        refine lv_aload_n hx hb dX11_isGain_56 rfl (lv_at hl 2 rfl) ?_
        refine lv_iload_n hx hb dX11_isGain_57 rfl (lv_at hl 3 rfl) ?_
        obtain ⟨r_3, hc, hf⟩ := obn_some hf
        refine g_cvi (As := [.int (i2 p1)]) (rest := []) X w_M_2 (k_X11_servedIn X.2.2.1 p1 hp1 w_M_2.2.2 hc) lk_X11_337 cl_11 KD_80 ⟨rfl, rfl⟩ ⟨nle rfl, nle rfl⟩ ⟨nle rfl, nle rfl⟩ hl.1 rfl (nle rfl) dX11_isGain_58 (fun hr_3 H locs w_M_2 => ?_)
        refine lv_iload_n hx hb dX11_isGain_61 rfl (lv_at hl 1 rfl) ?_
        refine g_icmp_ge (tgt := 93) X hr_3 hr dX11_isGain_62 (by decide) (fun cd_4 => ?_) (fun cd_4 => ?_)
        · replace hf := ite_t cd_4 hf
          refine g_iconst X dX11_isGain_93 ?_
          refine g_ist (v := 0) (lv' := [(5, .int (i2 0)), (4, .int (i2 r_2)), (3, .int (i2 r)), (0, .ref (ad 80)), (1, .int (i2 p1)), (2, .int (i2 p2))]) X rfl dX11_isGain_94 hl (by decide) rfl (fun ls hl => ?_)
          refine lv_aload_n hx hb dX11_isGain_96 rfl (lv_at hl 3 rfl) ?_
          refine lv_iload_n hx hb dX11_isGain_97 rfl (lv_at hl 4 rfl) ?_
          refine lv_iload_n hx hb dX11_isGain_98 rfl (lv_at hl 5 rfl) ?_
          obtain ⟨M_3, hc, hf⟩ := obn_some hf
          refine g_cvv (As := [.int (i2 p1), .int (i2 p2)]) (rest := []) X w_M_2 (k_X11_swaps X.2.2.1 p1 hp1 p2 hp2 w_M_2.2.2 hc) lk_X11_377 cl_11 KD_80 ⟨rfl, rfl⟩ ⟨nle rfl, nle rfl⟩ ⟨nle rfl, nle rfl⟩ hl.1 rfl (nle rfl) dX11_isGain_99 (fun H locs w_M_3 => ?_)
          refine lv_iload hx hb dX11_isGain_102 (lv_at hl 0 rfl) ?_
          exact HR 0 M_3 _ _ _ _ (Option.some.inj hf).symm (Or.inl rfl) w_M_3 dX11_isGain_104
        · replace hf := ite_f cd_4 hf
          refine lv_aload_n hx hb dX11_isGain_65 rfl (lv_at hl 2 rfl) ?_
          refine lv_iload_n hx hb dX11_isGain_66 rfl (lv_at hl 4 rfl) ?_
          obtain ⟨r_4, hc, hf⟩ := obn_some hf
          refine g_cvi (As := [.int (i2 p2)]) (rest := []) X w_M_2 (k_X11_servedIn X.2.2.1 p2 hp2 w_M_2.2.2 hc) lk_X11_337 cl_11 KD_80 ⟨rfl, rfl⟩ ⟨nle rfl, nle rfl⟩ ⟨nle rfl, nle rfl⟩ hl.1 rfl (nle rfl) dX11_isGain_67 (fun hr_4 H locs w_M_2 => ?_)
          refine lv_iload hx hb dX11_isGain_70 (lv_at hl 0 rfl) ?_
          refine g_icmp_ge (tgt := 93) X hr_4 hr_2 dX11_isGain_72 (by decide) (fun cd_5 => ?_) (fun cd_5 => ?_)
          · replace hf := ite_t cd_5 hf
            refine g_iconst X dX11_isGain_93 ?_
            refine g_ist (v := 0) (lv' := [(5, .int (i2 0)), (4, .int (i2 r_2)), (3, .int (i2 r)), (0, .ref (ad 80)), (1, .int (i2 p1)), (2, .int (i2 p2))]) X rfl dX11_isGain_94 hl (by decide) rfl (fun ls hl => ?_)
            refine lv_aload_n hx hb dX11_isGain_96 rfl (lv_at hl 3 rfl) ?_
            refine lv_iload_n hx hb dX11_isGain_97 rfl (lv_at hl 4 rfl) ?_
            refine lv_iload_n hx hb dX11_isGain_98 rfl (lv_at hl 5 rfl) ?_
            obtain ⟨M_4, hc, hf⟩ := obn_some hf
            refine g_cvv (As := [.int (i2 p1), .int (i2 p2)]) (rest := []) X w_M_2 (k_X11_swaps X.2.2.1 p1 hp1 p2 hp2 w_M_2.2.2 hc) lk_X11_377 cl_11 KD_80 ⟨rfl, rfl⟩ ⟨nle rfl, nle rfl⟩ ⟨nle rfl, nle rfl⟩ hl.1 rfl (nle rfl) dX11_isGain_99 (fun H locs w_M_4 => ?_)
            refine lv_iload hx hb dX11_isGain_102 (lv_at hl 0 rfl) ?_
            exact HR 0 M_4 _ _ _ _ (Option.some.inj hf).symm (Or.inl rfl) w_M_4 dX11_isGain_104
          · replace hf := ite_f cd_5 hf
            refine lv_aload_n hx hb dX11_isGain_75 rfl (lv_at hl 2 rfl) ?_
            obtain ⟨r_5, hc, hf⟩ := obn_some hf
            refine g_cvi (As := []) (rest := []) X w_M_2 (k_X11_isSound X.2.2.1  w_M_2.2.2 hc) lk_X11_352 cl_11 KD_80 ⟨rfl, rfl⟩ ⟨nle rfl, nle rfl⟩ ⟨nle rfl, nle rfl⟩ hl.1 rfl (nle rfl) dX11_isGain_76 (fun hr_5 H locs w_M_2 => ?_)
            refine g_if_eq (tgt := 93) X hr_5 dX11_isGain_79 (by decide) (fun cd_6 => ?_) (fun cd_6 => ?_)
            · replace hf := ite_t cd_6 hf
              refine g_iconst X dX11_isGain_93 ?_
              refine g_ist (v := 0) (lv' := [(5, .int (i2 0)), (4, .int (i2 r_2)), (3, .int (i2 r)), (0, .ref (ad 80)), (1, .int (i2 p1)), (2, .int (i2 p2))]) X rfl dX11_isGain_94 hl (by decide) rfl (fun ls hl => ?_)
              refine lv_aload_n hx hb dX11_isGain_96 rfl (lv_at hl 3 rfl) ?_
              refine lv_iload_n hx hb dX11_isGain_97 rfl (lv_at hl 4 rfl) ?_
              refine lv_iload_n hx hb dX11_isGain_98 rfl (lv_at hl 5 rfl) ?_
              obtain ⟨M_5, hc, hf⟩ := obn_some hf
              refine g_cvv (As := [.int (i2 p1), .int (i2 p2)]) (rest := []) X w_M_2 (k_X11_swaps X.2.2.1 p1 hp1 p2 hp2 w_M_2.2.2 hc) lk_X11_377 cl_11 KD_80 ⟨rfl, rfl⟩ ⟨nle rfl, nle rfl⟩ ⟨nle rfl, nle rfl⟩ hl.1 rfl (nle rfl) dX11_isGain_99 (fun H locs w_M_5 => ?_)
              refine lv_iload hx hb dX11_isGain_102 (lv_at hl 0 rfl) ?_
              exact HR 0 M_5 _ _ _ _ (Option.some.inj hf).symm (Or.inl rfl) w_M_5 dX11_isGain_104
            · replace hf := ite_f cd_6 hf
              refine lv_aload_n hx hb dX11_isGain_82 rfl (lv_at hl 2 rfl) ?_
              obtain ⟨r_6, hc, hf⟩ := obn_some hf
              refine g_cvi (As := []) (rest := []) X w_M_2 (k_X11_lack X.2.2.1  w_M_2.2.2 hc) lk_X11_355 cl_11 KD_80 ⟨rfl, rfl⟩ ⟨nle rfl, nle rfl⟩ ⟨nle rfl, nle rfl⟩ hl.1 rfl (nle rfl) dX11_isGain_83 (fun hr_6 H locs w_M_2 => ?_)
              refine g_if_ne (tgt := 93) X hr_6 dX11_isGain_86 (by decide) (fun cd_7 => ?_) (fun cd_7 => ?_)
              · replace hf := ite_f cd_7 hf
                refine g_iconst X dX11_isGain_93 ?_
                refine g_ist (v := 0) (lv' := [(5, .int (i2 0)), (4, .int (i2 r_2)), (3, .int (i2 r)), (0, .ref (ad 80)), (1, .int (i2 p1)), (2, .int (i2 p2))]) X rfl dX11_isGain_94 hl (by decide) rfl (fun ls hl => ?_)
                refine lv_aload_n hx hb dX11_isGain_96 rfl (lv_at hl 3 rfl) ?_
                refine lv_iload_n hx hb dX11_isGain_97 rfl (lv_at hl 4 rfl) ?_
                refine lv_iload_n hx hb dX11_isGain_98 rfl (lv_at hl 5 rfl) ?_
                obtain ⟨M_6, hc, hf⟩ := obn_some hf
                refine g_cvv (As := [.int (i2 p1), .int (i2 p2)]) (rest := []) X w_M_2 (k_X11_swaps X.2.2.1 p1 hp1 p2 hp2 w_M_2.2.2 hc) lk_X11_377 cl_11 KD_80 ⟨rfl, rfl⟩ ⟨nle rfl, nle rfl⟩ ⟨nle rfl, nle rfl⟩ hl.1 rfl (nle rfl) dX11_isGain_99 (fun H locs w_M_6 => ?_)
                refine lv_iload hx hb dX11_isGain_102 (lv_at hl 0 rfl) ?_
                exact HR 0 M_6 _ _ _ _ (Option.some.inj hf).symm (Or.inl rfl) w_M_6 dX11_isGain_104
              · replace hf := ite_t cd_7 hf
                refine g_iconst X dX11_isGain_89 ?_
                refine lv_goto (tgt := 94) hx hb dX11_isGain_90 (by decide) ?_
                refine g_ist (v := 1) (lv' := [(5, .int (i2 1)), (4, .int (i2 r_2)), (3, .int (i2 r)), (0, .ref (ad 80)), (1, .int (i2 p1)), (2, .int (i2 p2))]) X rfl dX11_isGain_94 hl (by decide) rfl (fun ls hl => ?_)
                refine lv_aload_n hx hb dX11_isGain_96 rfl (lv_at hl 3 rfl) ?_
                refine lv_iload_n hx hb dX11_isGain_97 rfl (lv_at hl 4 rfl) ?_
                refine lv_iload_n hx hb dX11_isGain_98 rfl (lv_at hl 5 rfl) ?_
                obtain ⟨M_7, hc, hf⟩ := obn_some hf
                refine g_cvv (As := [.int (i2 p1), .int (i2 p2)]) (rest := []) X w_M_2 (k_X11_swaps X.2.2.1 p1 hp1 p2 hp2 w_M_2.2.2 hc) lk_X11_377 cl_11 KD_80 ⟨rfl, rfl⟩ ⟨nle rfl, nle rfl⟩ ⟨nle rfl, nle rfl⟩ hl.1 rfl (nle rfl) dX11_isGain_99 (fun H locs w_M_7 => ?_)
                refine lv_iload hx hb dX11_isGain_102 (lv_at hl 0 rfl) ?_
                exact HR 1 M_7 _ _ _ _ (Option.some.inj hf).symm (Or.inr rfl) w_M_7 dX11_isGain_104
      · replace hf := ite_t cd_3 hf
        refine g_iconst X dX11_isGain_35 ?_
        exact HR 0 M _ _ _ _ (Option.some.inj hf).symm (Or.inl rfl) w dX11_isGain_36
set_option maxRecDepth 100000 in
set_option maxHeartbeats 4000000 in
theorem k_X11_isGain {l : Launch} {D : va_G} {aC : Nat → ClassId} {ad : Nat → Nat} {sg : SG} (hi : Inj ad) (p1 : Int) (hp1 : inR p1) (p2 : Int) (hp2 : inR p2) {M : Mem} (hM : inM M) {r : Int} {M' : Mem} (hf : f_X11_isGain p1 p2 M = some (r, M')) : MetI l D aC ad sg yX11_isGain cX11_isGain 6 (some .boolean) rm_X11_isGain 0 0 [.ref (ad 80), .int (i2 p1), .int (i2 p2)] M r M' := by
  refine MetI.ofZ (by decide +kernel) (nle rfl) hi hM (fun p e s m args below meth c Q H0 ls X hl w hret => ?_)
  exact b_X11_isGain_0 X  (fun r1 M1 H locs pc ls eo hP w dg => by cases eo; exact hret H locs pc ls hP w dg) p1 hp1 p2 hp2 M hf hl w
set_option maxRecDepth 100000 in
set_option maxHeartbeats 4000000 in
theorem b_X11_swaps__s25 (X : CX p s m args c cX11_swaps_ 4 RX11 D aC ad sg A H0) (v2 : Int) (hv2 : inR v2) {o : (Int × Int × Mem) ⊕ (Int × Int × Mem)} (HC : ∀ (y1 : Int) (y3 : Int) (M1 : Mem) (H : Heap) (locs : List Loc) (ls : Array Slot), o = .inl (y1, y3, M1) → inR y1 → inR y3 → lv_has ls 4 [(0, .ref (ad 80)), (1, .int (i2 y1)), (2, .int (i2 v2)), (3, .int (i2 y3))] → WS D aC ad A H0 M1 H locs → W p l e rm_X11_swaps_ s m args below meth c H locs 0 0 Q (F0 m 25 ls [])) (HE : ∀ (y1 : Int) (y3 : Int) (M1 : Mem) (H : Heap) (locs : List Loc) (ls : Array Slot), o = .inr (y1, y3, M1) → inR y1 → inR y3 → lv_has ls 4 [(0, .ref (ad 80)), (1, .int (i2 y1)), (2, .int (i2 v2)), (3, .int (i2 y3))] → WS D aC ad A H0 M1 H locs → W p l e rm_X11_swaps_ s m args below meth c H locs 0 0 Q (F0 m 56 ls [])) (v1 : Int) (hv1 : inR v1) (v3 : Int) (hv3 : inR v3) (M : Mem) (hf : f_X11_swaps__s25 v2 v1 v3 M = some o) {H : Heap} {locs : List Loc} {ls : Array Slot} (hl : lv_has ls 4 [(0, .ref (ad 80)), (1, .int (i2 v1)), (2, .int (i2 v2)), (3, .int (i2 v3))]) (w : WS D aC ad A H0 M H locs) : W p l e rm_X11_swaps_ s m args below meth c H locs 0 0 Q (F0 m 25 ls []) := by
  have hx := X.1.1
  have hb := X.1.2.1
  unfold f_X11_swaps__s25 at hf
  refine lv_iload_n hx hb dX11_swaps__25 rfl (lv_at hl 3 rfl) ?_
  refine lv_aload_n hx hb dX11_swaps__26 rfl (lv_at hl 0 rfl) ?_
  refine g_geti X w fg_X11_142 KD_80 FR_80_1 dX11_swaps__27 ?_
  refine g_icmp_ge (tgt := 56) X hv3 (w.2.2 _ _) dX11_swaps__30 (by decide) (fun cd => ?_) (fun cd => ?_)
  · replace hf := ite_t cd hf
    exact HE v1 v3 M _ _ _ (Option.some.inj hf).symm hv1 hv3 hl w
  · replace hf := ite_f cd hf
    refine lv_iload_n hx hb dX11_swaps__33 rfl (lv_at hl 1 rfl) ?_
    refine lv_aload_n hx hb dX11_swaps__34 rfl (lv_at hl 0 rfl) ?_
    refine lv_iload_n hx hb dX11_swaps__35 rfl (lv_at hl 2 rfl) ?_
    refine lv_iload_n hx hb dX11_swaps__36 rfl (lv_at hl 3 rfl) ?_
    obtain ⟨r, M_2, hc, hf⟩ := bnd_some hf
    refine g_cvi (As := [.int (i2 v2), .int (i2 v3)]) (rest := [.int (i2 v1)]) X w (k_X11_isGain X.2.2.1 v2 hv2 v3 hv3 w.2.2 hc) lk_X11_390 cl_11 KD_80 ⟨rfl, rfl⟩ ⟨nle rfl, nle rfl⟩ ⟨nle rfl, nle rfl⟩ hl.1 rfl (nle rfl) dX11_swaps__37 (fun hr H locs w_M_2 => ?_)
    refine g_if_eq (tgt := 47) X hr dX11_swaps__40 (by decide) (fun cd_2 => ?_) (fun cd_2 => ?_)
    · replace hf := ite_t cd_2 hf
      refine g_iconst X dX11_swaps__47 ?_
      refine g_iadd X dX11_swaps__48 ?_
      obtain ⟨v1_2, ev1_2, hf⟩ := lt_some hf
      have hv1_2 : inR v1_2 := inR_of ev1_2 (inR_wrap _)
      refine g_istn (v := v1_2) (lv' := [(1, .int (i2 v1_2)), (0, .ref (ad 80)), (2, .int (i2 v2)), (3, .int (i2 v3))]) X ev1_2 dX11_swaps__49 rfl hl (by decide) rfl (fun ls hl => ?_)
      obtain ⟨v3_2, ev3_2, hf⟩ := lt_some hf
      have hv3_2 : inR v3_2 := inR_of ev3_2 (inR_wrap _)
      refine lv_iinc (v := i2 v3_2) (lv' := [(3, .int (i2 v3_2)), (1, .int (i2 v1_2)), (0, .ref (ad 80)), (2, .int (i2 v2))]) hx hb dX11_swaps__50 hl (k := 3) rfl (by rw [ev3_2]; exact i2_add _ _) (by decide) rfl (fun ls hl => ?_)
      refine lv_goto (tgt := 25) hx hb dX11_swaps__53 (by decide) ?_
      exact HC v1_2 v3_2 M_2 _ _ _ (Option.some.inj hf).symm hv1_2 hv3_2 (lv_sub hl [2, 1, 3, 0] rfl) w_M_2
    · replace hf := ite_f cd_2 hf
      refine g_iconst X dX11_swaps__43 ?_
      refine lv_goto (tgt := 48) hx hb dX11_swaps__44 (by decide) ?_
      refine g_iadd X dX11_swaps__48 ?_
      obtain ⟨v1_3, ev1_3, hf⟩ := lt_some hf
      have hv1_3 : inR v1_3 := inR_of ev1_3 (inR_wrap _)
      refine g_istn (v := v1_3) (lv' := [(1, .int (i2 v1_3)), (0, .ref (ad 80)), (2, .int (i2 v2)), (3, .int (i2 v3))]) X ev1_3 dX11_swaps__49 rfl hl (by decide) rfl (fun ls hl => ?_)
      obtain ⟨v3_3, ev3_3, hf⟩ := lt_some hf
      have hv3_3 : inR v3_3 := inR_of ev3_3 (inR_wrap _)
      refine lv_iinc (v := i2 v3_3) (lv' := [(3, .int (i2 v3_3)), (1, .int (i2 v1_3)), (0, .ref (ad 80)), (2, .int (i2 v2))]) hx hb dX11_swaps__50 hl (k := 3) rfl (by rw [ev3_3]; exact i2_add _ _) (by decide) rfl (fun ls hl => ?_)
      refine lv_goto (tgt := 25) hx hb dX11_swaps__53 (by decide) ?_
      exact HC v1_3 v3_3 M_2 _ _ _ (Option.some.inj hf).symm hv1_3 hv3_3 (lv_sub hl [2, 1, 3, 0] rfl) w_M_2
set_option maxRecDepth 100000 in
set_option maxHeartbeats 4000000 in
theorem l_X11_swaps__25 (X : CX p s m args c cX11_swaps_ 4 RX11 D aC ad sg A H0) (v2 : Int) (hv2 : inR v2) {out : Int × Int × Mem} (HE : ∀ (y1 : Int) (y3 : Int) (M1 : Mem) (H : Heap) (locs : List Loc) (ls : Array Slot), out = (y1, y3, M1) → inR y1 → inR y3 → lv_has ls 4 [(0, .ref (ad 80)), (1, .int (i2 y1)), (2, .int (i2 v2)), (3, .int (i2 y3))] → WS D aC ad A H0 M1 H locs → W p l e rm_X11_swaps_ s m args below meth c H locs 0 0 Q (F0 m 56 ls [])) : ∀ (n : Nat) (v1 : Int) (v3 : Int) (M : Mem), whl (fun s => f_X11_swaps__s25 v2 s.1 s.2.1 s.2.2) n (v1, v3, M) = some out → inR v1 → inR v3 → ∀ {H : Heap} {locs : List Loc} {ls : Array Slot}, lv_has ls 4 [(0, .ref (ad 80)), (1, .int (i2 v1)), (2, .int (i2 v2)), (3, .int (i2 v3))] → WS D aC ad A H0 M H locs → W p l e rm_X11_swaps_ s m args below meth c H locs 0 0 Q (F0 m 25 ls []) := by
  intro n
  induction n with
  | zero => intro v1 v3 M hf; exact (whl_zero hf).elim
  | succ n ih =>
    intro v1 v3 M hf hv1 hv3 H locs ls hl w
    obtain ⟨o, hf, hk1, hk2⟩ := whl_step hf
    exact b_X11_swaps__s25 X v2 hv2 (fun y1 y3 M1 H locs ls eo hy1 hy3 hl w => ih y1 y3 M1 (hk1 _ eo) hy1 hy3 hl w) (fun y1 y3 M1 H locs ls eo hy1 hy3 hl w => HE y1 y3 M1 H locs ls (hk2 _ eo).symm hy1 hy3 hl w) v1 hv1 v3 hv3 M hf hl w
set_option maxRecDepth 100000 in
set_option maxHeartbeats 4000000 in
theorem b_X11_swaps__j56k13 (X : CX p s m args c cX11_swaps_ 4 RX11 D aC ad sg A H0) {o : (Int × Int × Mem) ⊕ (Int × Int × Mem)} (HC : ∀ (y1 : Int) (y2 : Int) (M1 : Mem) (H : Heap) (locs : List Loc) (ls : Array Slot), o = .inl (y1, y2, M1) → inR y1 → inR y2 → lv_has ls 4 [(0, .ref (ad 80)), (1, .int (i2 y1)), (2, .int (i2 y2))] → WS D aC ad A H0 M1 H locs → W p l e rm_X11_swaps_ s m args below meth c H locs 0 0 Q (F0 m 13 ls [])) (HE : ∀ (y1 : Int) (y2 : Int) (M1 : Mem) (H : Heap) (locs : List Loc) (ls : Array Slot), o = .inr (y1, y2, M1) → inR y1 → inR y2 → lv_has ls 4 [(0, .ref (ad 80)), (1, .int (i2 y1)), (2, .int (i2 y2))] → WS D aC ad A H0 M1 H locs → W p l e rm_X11_swaps_ s m args below meth c H locs 0 0 Q (F0 m 62 ls [])) (v1 : Int) (hv1 : inR v1) (v2 : Int) (hv2 : inR v2) (M : Mem) (hf : f_X11_swaps__j56k13 v1 v2 M = some o) {H : Heap} {locs : List Loc} {ls : Array Slot} (hl : lv_has ls 4 [(0, .ref (ad 80)), (1, .int (i2 v1)), (2, .int (i2 v2))]) (w : WS D aC ad A H0 M H locs) : W p l e rm_X11_swaps_ s m args below meth c H locs 0 0 Q (F0 m 56 ls []) := by
  have hx := X.1.1
  have hb := X.1.2.1
  unfold f_X11_swaps__j56k13 at hf
  obtain ⟨v2_2, ev2_2, hf⟩ := lt_some hf
  have hv2_2 : inR v2_2 := inR_of ev2_2 (inR_wrap _)
  refine lv_iinc (v := i2 v2_2) (lv' := [(2, .int (i2 v2_2)), (0, .ref (ad 80)), (1, .int (i2 v1))]) hx hb dX11_swaps__56 hl (k := 2) rfl (by rw [ev2_2]; exact i2_add _ _) (by decide) rfl (fun ls hl => ?_)
  refine lv_goto (tgt := 13) hx hb dX11_swaps__59 (by decide) ?_
  exact HC v1 v2_2 M _ _ _ (Option.some.inj hf).symm hv1 hv2_2 (lv_sub hl [1, 2, 0] rfl) w
set_option maxRecDepth 100000 in
set_option maxHeartbeats 4000000 in
theorem b_X11_swaps__s13 (X : CX p s m args c cX11_swaps_ 4 RX11 D aC ad sg A H0) {o : (Int × Int × Mem) ⊕ (Int × Int × Mem)} (HC : ∀ (y1 : Int) (y2 : Int) (M1 : Mem) (H : Heap) (locs : List Loc) (ls : Array Slot), o = .inl (y1, y2, M1) → inR y1 → inR y2 → lv_has ls 4 [(0, .ref (ad 80)), (1, .int (i2 y1)), (2, .int (i2 y2))] → WS D aC ad A H0 M1 H locs → W p l e rm_X11_swaps_ s m args below meth c H locs 0 0 Q (F0 m 13 ls [])) (HE : ∀ (y1 : Int) (y2 : Int) (M1 : Mem) (H : Heap) (locs : List Loc) (ls : Array Slot), o = .inr (y1, y2, M1) → inR y1 → inR y2 → lv_has ls 4 [(0, .ref (ad 80)), (1, .int (i2 y1)), (2, .int (i2 y2))] → WS D aC ad A H0 M1 H locs → W p l e rm_X11_swaps_ s m args below meth c H locs 0 0 Q (F0 m 62 ls [])) (v1 : Int) (hv1 : inR v1) (v2 : Int) (hv2 : inR v2) (M : Mem) (hf : f_X11_swaps__s13 v1 v2 M = some o) {H : Heap} {locs : List Loc} {ls : Array Slot} (hl : lv_has ls 4 [(0, .ref (ad 80)), (1, .int (i2 v1)), (2, .int (i2 v2))]) (w : WS D aC ad A H0 M H locs) : W p l e rm_X11_swaps_ s m args below meth c H locs 0 0 Q (F0 m 13 ls []) := by
  have hx := X.1.1
  have hb := X.1.2.1
  unfold f_X11_swaps__s13 at hf
  refine lv_iload_n hx hb dX11_swaps__13 rfl (lv_at hl 2 rfl) ?_
  refine lv_aload_n hx hb dX11_swaps__14 rfl (lv_at hl 0 rfl) ?_
  refine g_geti X w fg_X11_142 KD_80 FR_80_1 dX11_swaps__15 ?_
  refine g_icmp_ge (tgt := 62) X hv2 (w.2.2 _ _) dX11_swaps__18 (by decide) (fun cd => ?_) (fun cd => ?_)
  · replace hf := ite_t cd hf
    exact HE v1 v2 M _ _ _ (Option.some.inj hf).symm hv1 hv2 hl w
  · replace hf := ite_f cd hf
    refine lv_iload_n hx hb dX11_swaps__21 rfl (lv_at hl 2 rfl) ?_
    refine g_iconst X dX11_swaps__22 ?_
    refine g_iadd X dX11_swaps__23 ?_
    obtain ⟨v3, ev3, hf⟩ := lt_some hf
    have hv3 : inR v3 := inR_of ev3 (inR_wrap _)
    refine g_istn (v := v3) (lv' := [(3, .int (i2 v3)), (0, .ref (ad 80)), (1, .int (i2 v1)), (2, .int (i2 v2))]) X ev3 dX11_swaps__24 rfl hl (by decide) rfl (fun ls hl => ?_)
    obtain ⟨q, hq, h1⟩ := obn_some hf
    exact l_X11_swaps__25 X v2 hv2 (out := q) (fun y1 y3 M1 H locs ls eq hy1 hy3 hl w => b_X11_swaps__j56k13 X  HC HE y1 hy1 v2 hv2 M1 (by subst eq; exact h1) (lv_sub hl [0, 1, 2] rfl) w)  FU v1 v3 M hq hv1 hv3 (lv_sub hl [1, 2, 3, 0] rfl) w
set_option maxRecDepth 100000 in
set_option maxHeartbeats 4000000 in
theorem l_X11_swaps__13 (X : CX p s m args c cX11_swaps_ 4 RX11 D aC ad sg A H0) {out : Int × Int × Mem} (HE : ∀ (y1 : Int) (y2 : Int) (M1 : Mem) (H : Heap) (locs : List Loc) (ls : Array Slot), out = (y1, y2, M1) → inR y1 → inR y2 → lv_has ls 4 [(0, .ref (ad 80)), (1, .int (i2 y1)), (2, .int (i2 y2))] → WS D aC ad A H0 M1 H locs → W p l e rm_X11_swaps_ s m args below meth c H locs 0 0 Q (F0 m 62 ls [])) : ∀ (n : Nat) (v1 : Int) (v2 : Int) (M : Mem), whl (fun s => f_X11_swaps__s13 s.1 s.2.1 s.2.2) n (v1, v2, M) = some out → inR v1 → inR v2 → ∀ {H : Heap} {locs : List Loc} {ls : Array Slot}, lv_has ls 4 [(0, .ref (ad 80)), (1, .int (i2 v1)), (2, .int (i2 v2))] → WS D aC ad A H0 M H locs → W p l e rm_X11_swaps_ s m args below meth c H locs 0 0 Q (F0 m 13 ls []) := by
  intro n
  induction n with
  | zero => intro v1 v2 M hf; exact (whl_zero hf).elim
  | succ n ih =>
    intro v1 v2 M hf hv1 hv2 H locs ls hl w
    obtain ⟨o, hf, hk1, hk2⟩ := whl_step hf
    exact b_X11_swaps__s13 X  (fun y1 y2 M1 H locs ls eo hy1 hy2 hl w => ih y1 y2 M1 (hk1 _ eo) hy1 hy2 hl w) (fun y1 y2 M1 H locs ls eo hy1 hy2 hl w => HE y1 y2 M1 H locs ls (hk2 _ eo).symm hy1 hy2 hl w) v1 hv1 v2 hv2 M hf hl w
set_option maxRecDepth 100000 in
set_option maxHeartbeats 4000000 in
theorem b_X11_swaps__j62 (X : CX p s m args c cX11_swaps_ 4 RX11 D aC ad sg A H0) {o : Int × Mem} (HR : ∀ (r : Int) (M1 : Mem) (H : Heap) (locs : List Loc) (pc : Nat) (ls : Array Slot), o = (r, M1) → inR r → WS D aC ad A H0 M1 H locs → decode cX11_swaps_ pc = .ok (.ireturn, 1) → W p l e rm_X11_swaps_ s m args below meth c H locs 0 0 Q (F0 m pc ls [.int (i2 r)])) (v1 : Int) (hv1 : inR v1) (M : Mem) (hf : f_X11_swaps__j62 v1 M = some o) {H : Heap} {locs : List Loc} {ls : Array Slot} (hl : lv_has ls 4 [(1, .int (i2 v1))]) (w : WS D aC ad A H0 M H locs) : W p l e rm_X11_swaps_ s m args below meth c H locs 0 0 Q (F0 m 62 ls []) := by
  have hx := X.1.1
  have hb := X.1.2.1
  unfold f_X11_swaps__j62 at hf
  refine lv_iload_n hx hb dX11_swaps__62 rfl (lv_at hl 0 rfl) ?_
  exact HR v1 M _ _ _ _ (Option.some.inj hf).symm hv1 w dX11_swaps__63
set_option maxRecDepth 100000 in
set_option maxHeartbeats 4000000 in
theorem b_X11_swaps__0 (X : CX p s m args c cX11_swaps_ 4 RX11 D aC ad sg A H0) {o : Int × Mem} (HR : ∀ (r : Int) (M1 : Mem) (H : Heap) (locs : List Loc) (pc : Nat) (ls : Array Slot), o = (r, M1) → inR r → WS D aC ad A H0 M1 H locs → decode cX11_swaps_ pc = .ok (.ireturn, 1) → W p l e rm_X11_swaps_ s m args below meth c H locs 0 0 Q (F0 m pc ls [.int (i2 r)])) (M : Mem) (hf : f_X11_swaps_ M = some o) {H : Heap} {locs : List Loc} {ls : Array Slot} (hl : lv_has ls 4 [(0, .ref (ad 80))]) (w : WS D aC ad A H0 M H locs) : W p l e rm_X11_swaps_ s m args below meth c H locs 0 0 Q (F0 m 0 ls []) := by
  have hx := X.1.1
  have hb := X.1.2.1
  unfold f_X11_swaps_ at hf
  refine lv_aload_n hx hb dX11_swaps__0 rfl (lv_at hl 0 rfl) ?_
  refine g_iconst X dX11_swaps__1 ?_
  obtain ⟨M_2, eM_2, hf⟩ := lt_some hf
  refine g_puti X w fp_X11_139 KD_80 FR_80_0 (inL rfl) dX11_swaps__2 (fun H locs w_M_2 => ?_)
  rw [← eM_2] at w_M_2
  refine lv_aload_n hx hb dX11_swaps__5 rfl (lv_at hl 0 rfl) ?_
  obtain ⟨M_3, hc, hf⟩ := obn_some hf
  refine g_cvv (As := []) (rest := []) X w_M_2 (k_X11_looks X.2.2.1  w_M_2.2.2 hc) lk_X11_381 cl_11 KD_80 ⟨rfl, rfl⟩ ⟨nle rfl, nle rfl⟩ ⟨nle rfl, nle rfl⟩ hl.1 rfl (nle rfl) dX11_swaps__6 (fun H locs w_M_3 => ?_)
  refine g_iconst X dX11_swaps__9 ?_
  refine g_istn (v := 0) (lv' := [(1, .int (i2 0)), (0, .ref (ad 80))]) X rfl dX11_swaps__10 rfl hl (by decide) rfl (fun ls hl => ?_)
  refine g_iconst X dX11_swaps__11 ?_
  refine g_istn (v := 0) (lv' := [(2, .int (i2 0)), (1, .int (i2 0)), (0, .ref (ad 80))]) X rfl dX11_swaps__12 rfl hl (by decide) rfl (fun ls hl => ?_)
  obtain ⟨q, hq, h1⟩ := obn_some hf
  exact l_X11_swaps__13 X  (out := q) (fun y1 y2 M1 H locs ls eq hy1 hy2 hl w => b_X11_swaps__j62 X  HR y1 hy1 M1 (by subst eq; exact h1) (lv_sub hl [1] rfl) w)  FU 0 0 M_3 hq (inL rfl) (inL rfl) (lv_sub hl [2, 1, 0] rfl) w_M_3
set_option maxRecDepth 100000 in
set_option maxHeartbeats 4000000 in
theorem k_X11_swaps_ {l : Launch} {D : va_G} {aC : Nat → ClassId} {ad : Nat → Nat} {sg : SG} (hi : Inj ad)  {M : Mem} (hM : inM M) {r : Int} {M' : Mem} (hf : f_X11_swaps_ M = some (r, M')) : MetI l D aC ad sg yX11_swaps_ cX11_swaps_ 4 (some .int) rm_X11_swaps_ 0 0 [.ref (ad 80)] M r M' := by
  refine MetI.ofI (by decide +kernel) (nle rfl) hi hM (fun p e s m args below meth c Q H0 ls X hl w hret => ?_)
  exact b_X11_swaps__0 X  (fun r1 M1 H locs pc ls eo hP w dg => by cases eo; exact hret H locs pc ls hP w dg) M hf hl w
set_option maxRecDepth 100000 in
set_option maxHeartbeats 4000000 in
theorem b_X11_swap_s40 (X : CX p s m args c cX11_swap 6 RX11 D aC ad sg A H0) (v2 : Int) (hv2 : inR v2) (v4 : Int) (hv4 : inR v4) {o : (Int × Int × Mem) ⊕ ((Int × Int × Mem) ⊕ (Int × Mem))} (HC : ∀ (y3 : Int) (y5 : Int) (M1 : Mem) (H : Heap) (locs : List Loc) (ls : Array Slot), o = .inl (y3, y5, M1) → inR y3 → inR y5 → lv_has ls 6 [(0, .ref (ad 80)), (2, .int (i2 v2)), (3, .int (i2 y3)), (4, .int (i2 v4)), (5, .int (i2 y5))] → WS D aC ad A H0 M1 H locs → W p l e rm_X11_swap s m args below meth c H locs 0 0 Q (F0 m 40 ls [])) (HE : ∀ (y3 : Int) (y5 : Int) (M1 : Mem) (H : Heap) (locs : List Loc) (ls : Array Slot), o = .inr (.inl (y3, y5, M1)) → inR y3 → inR y5 → lv_has ls 6 [(0, .ref (ad 80)), (2, .int (i2 v2)), (3, .int (i2 y3)), (4, .int (i2 v4)), (5, .int (i2 y5))] → WS D aC ad A H0 M1 H locs → W p l e rm_X11_swap s m args below meth c H locs 0 0 Q (F0 m 88 ls [])) (HR : ∀ (r : Int) (M1 : Mem) (H : Heap) (locs : List Loc) (pc : Nat) (ls : Array Slot), o = .inr (.inr (r, M1)) → inR r → WS D aC ad A H0 M1 H locs → decode cX11_swap pc = .ok (.ireturn, 1) → W p l e rm_X11_swap s m args below meth c H locs 0 0 Q (F0 m pc ls [.int (i2 r)])) (v3 : Int) (hv3 : inR v3) (v5 : Int) (hv5 : inR v5) (M : Mem) (hf : f_X11_swap_s40 v2 v4 v3 v5 M = some o) {H : Heap} {locs : List Loc} {ls : Array Slot} (hl : lv_has ls 6 [(0, .ref (ad 80)), (2, .int (i2 v2)), (3, .int (i2 v3)), (4, .int (i2 v4)), (5, .int (i2 v5))]) (w : WS D aC ad A H0 M H locs) : W p l e rm_X11_swap s m args below meth c H locs 0 0 Q (F0 m 40 ls []) := by
  have hx := X.1.1
  have hb := X.1.2.1
  unfold f_X11_swap_s40 at hf
  refine lv_iload hx hb dX11_swap_40 (lv_at hl 4 rfl) ?_
  refine lv_aload_n hx hb dX11_swap_42 rfl (lv_at hl 0 rfl) ?_
  refine g_geti X w fg_X11_142 KD_80 FR_80_1 dX11_swap_43 ?_
  refine g_icmp_ge (tgt := 88) X hv5 (w.2.2 _ _) dX11_swap_46 (by decide) (fun cd => ?_) (fun cd => ?_)
  · replace hf := ite_t cd hf
    exact HE v3 v5 M _ _ _ (Option.some.inj hf).symm hv3 hv5 hl w
  · replace hf := ite_f cd hf
    refine lv_aload_n hx hb dX11_swap_49 rfl (lv_at hl 0 rfl) ?_
    refine lv_iload hx hb dX11_swap_50 (lv_at hl 3 rfl) ?_
    refine lv_iload hx hb dX11_swap_52 (lv_at hl 4 rfl) ?_
    obtain ⟨r, M_2, hc, hf⟩ := bnd_some hf
    refine g_cvi (As := [.int (i2 v4), .int (i2 v5)]) (rest := []) X w (k_X11_isGain X.2.2.1 v4 hv4 v5 hv5 w.2.2 hc) lk_X11_390 cl_11 KD_80 ⟨rfl, rfl⟩ ⟨nle rfl, nle rfl⟩ ⟨nle rfl, nle rfl⟩ hl.1 rfl (nle rfl) dX11_swap_54 (fun hr H locs w_M_2 => ?_)
    refine g_if_ne (tgt := 63) X hr dX11_swap_57 (by decide) (fun cd_2 => ?_) (fun cd_2 => ?_)
    · replace hf := ite_f cd_2 hf
      refine lv_iload_n hx hb dX11_swap_63 rfl (lv_at hl 2 rfl) ?_
      refine g_if_ne (tgt := 79) X hv3 dX11_swap_64 (by decide) (fun cd_3 => ?_) (fun cd_3 => ?_)
      · replace hf := ite_f cd_3 hf
        obtain ⟨v3_2, ev3_2, hf⟩ := lt_some hf
        have hv3_2 : inR v3_2 := inR_of ev3_2 (inR_wrap _)
        refine lv_iinc (v := i2 v3_2) (lv' := [(3, .int (i2 v3_2)), (0, .ref (ad 80)), (2, .int (i2 v2)), (4, .int (i2 v4)), (5, .int (i2 v5))]) hx hb dX11_swap_79 hl (k := 2) rfl (by rw [ev3_2]; exact i2_add _ _) (by decide) rfl (fun ls hl => ?_)
        obtain ⟨v5_2, ev5_2, hf⟩ := lt_some hf
        have hv5_2 : inR v5_2 := inR_of ev5_2 (inR_wrap _)
        refine lv_iinc (v := i2 v5_2) (lv' := [(5, .int (i2 v5_2)), (3, .int (i2 v3_2)), (0, .ref (ad 80)), (2, .int (i2 v2)), (4, .int (i2 v4))]) hx hb dX11_swap_82 hl (k := 4) rfl (by rw [ev5_2]; exact i2_add _ _) (by decide) rfl (fun ls hl => ?_)
        refine lv_goto (tgt := 40) hx hb dX11_swap_85 (by decide) ?_
        exact HC v3_2 v5_2 M_2 _ _ _ (Option.some.inj hf).symm hv3_2 hv5_2 (lv_sub hl [2, 3, 1, 4, 0] rfl) w_M_2
      · replace hf := ite_t cd_3 hf
        refine lv_iload_n hx hb dX11_swap_67 rfl (lv_at hl 1 rfl) ?_
        refine g_if_ne (tgt := 76) X hv2 dX11_swap_68 (by decide) (fun cd_4 => ?_) (fun cd_4 => ?_)
        · replace hf := ite_f cd_4 hf
          refine lv_iload hx hb dX11_swap_76 (lv_at hl 4 rfl) ?_
          exact HR v5 M_2 _ _ _ _ (Option.some.inj hf).symm hv5 w_M_2 dX11_swap_78
        · replace hf := ite_t cd_4 hf
          refine lv_iload hx hb dX11_swap_71 (lv_at hl 3 rfl) ?_
          refine lv_goto (tgt := 78) hx hb dX11_swap_73 (by decide) ?_
          exact HR v4 M_2 _ _ _ _ (Option.some.inj hf).symm hv4 w_M_2 dX11_swap_78
    · replace hf := ite_t cd_2 hf
      refine lv_goto (tgt := 82) hx hb dX11_swap_60 (by decide) ?_
      obtain ⟨v5_3, ev5_3, hf⟩ := lt_some hf
      have hv5_3 : inR v5_3 := inR_of ev5_3 (inR_wrap _)
      refine lv_iinc (v := i2 v5_3) (lv' := [(5, .int (i2 v5_3)), (0, .ref (ad 80)), (2, .int (i2 v2)), (3, .int (i2 v3)), (4, .int (i2 v4))]) hx hb dX11_swap_82 hl (k := 4) rfl (by rw [ev5_3]; exact i2_add _ _) (by decide) rfl (fun ls hl => ?_)
      refine lv_goto (tgt := 40) hx hb dX11_swap_85 (by decide) ?_
      exact HC v3 v5_3 M_2 _ _ _ (Option.some.inj hf).symm hv3 hv5_3 (lv_sub hl [1, 2, 3, 4, 0] rfl) w_M_2
set_option maxRecDepth 100000 in
set_option maxHeartbeats 4000000 in
theorem l_X11_swap_40 (X : CX p s m args c cX11_swap 6 RX11 D aC ad sg A H0) (v2 : Int) (hv2 : inR v2) (v4 : Int) (hv4 : inR v4) {out : (Int × Int × Mem) ⊕ (Int × Mem)} (HE : ∀ (y3 : Int) (y5 : Int) (M1 : Mem) (H : Heap) (locs : List Loc) (ls : Array Slot), out = .inl (y3, y5, M1) → inR y3 → inR y5 → lv_has ls 6 [(0, .ref (ad 80)), (2, .int (i2 v2)), (3, .int (i2 y3)), (4, .int (i2 v4)), (5, .int (i2 y5))] → WS D aC ad A H0 M1 H locs → W p l e rm_X11_swap s m args below meth c H locs 0 0 Q (F0 m 88 ls [])) (HR : ∀ (r : Int) (M1 : Mem) (H : Heap) (locs : List Loc) (pc : Nat) (ls : Array Slot), out = .inr (r, M1) → inR r → WS D aC ad A H0 M1 H locs → decode cX11_swap pc = .ok (.ireturn, 1) → W p l e rm_X11_swap s m args below meth c H locs 0 0 Q (F0 m pc ls [.int (i2 r)])) : ∀ (n : Nat) (v3 : Int) (v5 : Int) (M : Mem), whl (fun s => f_X11_swap_s40 v2 v4 s.1 s.2.1 s.2.2) n (v3, v5, M) = some out → inR v3 → inR v5 → ∀ {H : Heap} {locs : List Loc} {ls : Array Slot}, lv_has ls 6 [(0, .ref (ad 80)), (2, .int (i2 v2)), (3, .int (i2 v3)), (4, .int (i2 v4)), (5, .int (i2 v5))] → WS D aC ad A H0 M H locs → W p l e rm_X11_swap s m args below meth c H locs 0 0 Q (F0 m 40 ls []) := by
  intro n
  induction n with
  | zero => intro v3 v5 M hf; exact (whl_zero hf).elim
  | succ n ih =>
    intro v3 v5 M hf hv3 hv5 H locs ls hl w
    obtain ⟨o, hf, hk1, hk2⟩ := whl_step hf
    exact b_X11_swap_s40 X v2 hv2 v4 hv4 (fun y3 y5 M1 H locs ls eo hy3 hy5 hl w => ih y3 y5 M1 (hk1 _ eo) hy3 hy5 hl w) (fun y3 y5 M1 H locs ls eo hy3 hy5 hl w => HE y3 y5 M1 H locs ls (hk2 _ eo).symm hy3 hy5 hl w) (fun r M1 H locs pc ls eo hP w dg => HR r M1 H locs pc ls (hk2 _ eo).symm hP w dg) v3 hv3 v5 hv5 M hf hl w
set_option maxRecDepth 100000 in
set_option maxHeartbeats 4000000 in
theorem b_X11_swap_j88k25 (X : CX p s m args c cX11_swap 6 RX11 D aC ad sg A H0) (v2 : Int) (hv2 : inR v2) {o : (Int × Int × Mem) ⊕ ((Int × Int × Mem) ⊕ (Int × Mem))} (HC : ∀ (y3 : Int) (y4 : Int) (M1 : Mem) (H : Heap) (locs : List Loc) (ls : Array Slot), o = .inl (y3, y4, M1) → inR y3 → inR y4 → lv_has ls 6 [(0, .ref (ad 80)), (2, .int (i2 v2)), (3, .int (i2 y3)), (4, .int (i2 y4))] → WS D aC ad A H0 M1 H locs → W p l e rm_X11_swap s m args below meth c H locs 0 0 Q (F0 m 25 ls [])) (HE : ∀ (y3 : Int) (y4 : Int) (M1 : Mem) (H : Heap) (locs : List Loc) (ls : Array Slot), o = .inr (.inl (y3, y4, M1)) → inR y3 → inR y4 → lv_has ls 6 [(0, .ref (ad 80)), (2, .int (i2 v2)), (3, .int (i2 y3)), (4, .int (i2 y4))] → WS D aC ad A H0 M1 H locs → W p l e rm_X11_swap s m args below meth c H locs 0 0 Q (F0 m 94 ls [])) (HR : ∀ (r : Int) (M1 : Mem) (H : Heap) (locs : List Loc) (pc : Nat) (ls : Array Slot), o = .inr (.inr (r, M1)) → inR r → WS D aC ad A H0 M1 H locs → decode cX11_swap pc = .ok (.ireturn, 1) → W p l e rm_X11_swap s m args below meth c H locs 0 0 Q (F0 m pc ls [.int (i2 r)])) (v3 : Int) (hv3 : inR v3) (v4 : Int) (hv4 : inR v4) (M : Mem) (hf : f_X11_swap_j88k25 v2 v3 v4 M = some o) {H : Heap} {locs : List Loc} {ls : Array Slot} (hl : lv_has ls 6 [(0, .ref (ad 80)), (2, .int (i2 v2)), (3, .int (i2 v3)), (4, .int (i2 v4))]) (w : WS D aC ad A H0 M H locs) : W p l e rm_X11_swap s m args below meth c H locs 0 0 Q (F0 m 88 ls []) := by
  have hx := X.1.1
  have hb := X.1.2.1
  unfold f_X11_swap_j88k25 at hf
  obtain ⟨v4_2, ev4_2, hf⟩ := lt_some hf
  have hv4_2 : inR v4_2 := inR_of ev4_2 (inR_wrap _)
  refine lv_iinc (v := i2 v4_2) (lv' := [(4, .int (i2 v4_2)), (0, .ref (ad 80)), (2, .int (i2 v2)), (3, .int (i2 v3))]) hx hb dX11_swap_88 hl (k := 3) rfl (by rw [ev4_2]; exact i2_add _ _) (by decide) rfl (fun ls hl => ?_)
  refine lv_goto (tgt := 25) hx hb dX11_swap_91 (by decide) ?_
  exact HC v3 v4_2 M _ _ _ (Option.some.inj hf).symm hv3 hv4_2 (lv_sub hl [1, 2, 3, 0] rfl) w
set_option maxRecDepth 100000 in
set_option maxHeartbeats 4000000 in
theorem b_X11_swap_s25 (X : CX p s m args c cX11_swap 6 RX11 D aC ad sg A H0) (v2 : Int) (hv2 : inR v2) {o : (Int × Int × Mem) ⊕ ((Int × Int × Mem) ⊕ (Int × Mem))} (HC : ∀ (y3 : Int) (y4 : Int) (M1 : Mem) (H : Heap) (locs : List Loc) (ls : Array Slot), o = .inl (y3, y4, M1) → inR y3 → inR y4 → lv_has ls 6 [(0, .ref (ad 80)), (2, .int (i2 v2)), (3, .int (i2 y3)), (4, .int (i2 y4))] → WS D aC ad A H0 M1 H locs → W p l e rm_X11_swap s m args below meth c H locs 0 0 Q (F0 m 25 ls [])) (HE : ∀ (y3 : Int) (y4 : Int) (M1 : Mem) (H : Heap) (locs : List Loc) (ls : Array Slot), o = .inr (.inl (y3, y4, M1)) → inR y3 → inR y4 → lv_has ls 6 [(0, .ref (ad 80)), (2, .int (i2 v2)), (3, .int (i2 y3)), (4, .int (i2 y4))] → WS D aC ad A H0 M1 H locs → W p l e rm_X11_swap s m args below meth c H locs 0 0 Q (F0 m 94 ls [])) (HR : ∀ (r : Int) (M1 : Mem) (H : Heap) (locs : List Loc) (pc : Nat) (ls : Array Slot), o = .inr (.inr (r, M1)) → inR r → WS D aC ad A H0 M1 H locs → decode cX11_swap pc = .ok (.ireturn, 1) → W p l e rm_X11_swap s m args below meth c H locs 0 0 Q (F0 m pc ls [.int (i2 r)])) (v3 : Int) (hv3 : inR v3) (v4 : Int) (hv4 : inR v4) (M : Mem) (hf : f_X11_swap_s25 v2 v3 v4 M = some o) {H : Heap} {locs : List Loc} {ls : Array Slot} (hl : lv_has ls 6 [(0, .ref (ad 80)), (2, .int (i2 v2)), (3, .int (i2 v3)), (4, .int (i2 v4))]) (w : WS D aC ad A H0 M H locs) : W p l e rm_X11_swap s m args below meth c H locs 0 0 Q (F0 m 25 ls []) := by
  have hx := X.1.1
  have hb := X.1.2.1
  unfold f_X11_swap_s25 at hf
  refine lv_iload hx hb dX11_swap_25 (lv_at hl 3 rfl) ?_
  refine lv_aload_n hx hb dX11_swap_27 rfl (lv_at hl 0 rfl) ?_
  refine g_geti X w fg_X11_142 KD_80 FR_80_1 dX11_swap_28 ?_
  refine g_icmp_ge (tgt := 94) X hv4 (w.2.2 _ _) dX11_swap_31 (by decide) (fun cd => ?_) (fun cd => ?_)
  · replace hf := ite_t cd hf
    exact HE v3 v4 M _ _ _ (Option.some.inj hf).symm hv3 hv4 hl w
  · replace hf := ite_f cd hf
    refine lv_iload hx hb dX11_swap_34 (lv_at hl 3 rfl) ?_
    refine g_iconst X dX11_swap_36 ?_
    refine g_iadd X dX11_swap_37 ?_
    obtain ⟨v5, ev5, hf⟩ := lt_some hf
    have hv5 : inR v5 := inR_of ev5 (inR_wrap _)
    refine g_ist (v := v5) (lv' := [(5, .int (i2 v5)), (0, .ref (ad 80)), (2, .int (i2 v2)), (3, .int (i2 v3)), (4, .int (i2 v4))]) X ev5 dX11_swap_38 hl (by decide) rfl (fun ls hl => ?_)
    obtain ⟨q, hq, h1, h2⟩ := lpr_some hf
    exact l_X11_swap_40 X v2 hv2 v4 hv4 (out := q) (fun y3 y5 M1 H locs ls eq hy3 hy5 hl w => b_X11_swap_j88k25 X v2 hv2 HC HE HR y3 hy3 v4 hv4 M1 (h1 _ eq) (lv_sub hl [0, 1, 2, 3] rfl) w) (fun r M1 H locs pc ls eq hP w dg => HR r M1 H locs pc ls (Option.some.inj (h2 _ eq)).symm hP w dg) FU v3 v5 M hq hv3 hv5 (lv_sub hl [1, 2, 3, 4, 0] rfl) w
set_option maxRecDepth 100000 in
set_option maxHeartbeats 4000000 in
theorem l_X11_swap_25 (X : CX p s m args c cX11_swap 6 RX11 D aC ad sg A H0) (v2 : Int) (hv2 : inR v2) {out : (Int × Int × Mem) ⊕ (Int × Mem)} (HE : ∀ (y3 : Int) (y4 : Int) (M1 : Mem) (H : Heap) (locs : List Loc) (ls : Array Slot), out = .inl (y3, y4, M1) → inR y3 → inR y4 → lv_has ls 6 [(0, .ref (ad 80)), (2, .int (i2 v2)), (3, .int (i2 y3)), (4, .int (i2 y4))] → WS D aC ad A H0 M1 H locs → W p l e rm_X11_swap s m args below meth c H locs 0 0 Q (F0 m 94 ls [])) (HR : ∀ (r : Int) (M1 : Mem) (H : Heap) (locs : List Loc) (pc : Nat) (ls : Array Slot), out = .inr (r, M1) → inR r → WS D aC ad A H0 M1 H locs → decode cX11_swap pc = .ok (.ireturn, 1) → W p l e rm_X11_swap s m args below meth c H locs 0 0 Q (F0 m pc ls [.int (i2 r)])) : ∀ (n : Nat) (v3 : Int) (v4 : Int) (M : Mem), whl (fun s => f_X11_swap_s25 v2 s.1 s.2.1 s.2.2) n (v3, v4, M) = some out → inR v3 → inR v4 → ∀ {H : Heap} {locs : List Loc} {ls : Array Slot}, lv_has ls 6 [(0, .ref (ad 80)), (2, .int (i2 v2)), (3, .int (i2 v3)), (4, .int (i2 v4))] → WS D aC ad A H0 M H locs → W p l e rm_X11_swap s m args below meth c H locs 0 0 Q (F0 m 25 ls []) := by
  intro n
  induction n with
  | zero => intro v3 v4 M hf; exact (whl_zero hf).elim
  | succ n ih =>
    intro v3 v4 M hf hv3 hv4 H locs ls hl w
    obtain ⟨o, hf, hk1, hk2⟩ := whl_step hf
    exact b_X11_swap_s25 X v2 hv2 (fun y3 y4 M1 H locs ls eo hy3 hy4 hl w => ih y3 y4 M1 (hk1 _ eo) hy3 hy4 hl w) (fun y3 y4 M1 H locs ls eo hy3 hy4 hl w => HE y3 y4 M1 H locs ls (hk2 _ eo).symm hy3 hy4 hl w) (fun r M1 H locs pc ls eo hP w dg => HR r M1 H locs pc ls (hk2 _ eo).symm hP w dg) v3 hv3 v4 hv4 M hf hl w
set_option maxRecDepth 100000 in
set_option maxHeartbeats 4000000 in
theorem b_X11_swap_j94 (X : CX p s m args c cX11_swap 6 RX11 D aC ad sg A H0) {o : Int × Mem} (HR : ∀ (r : Int) (M1 : Mem) (H : Heap) (locs : List Loc) (pc : Nat) (ls : Array Slot), o = (r, M1) → inR r → WS D aC ad A H0 M1 H locs → decode cX11_swap pc = .ok (.ireturn, 1) → W p l e rm_X11_swap s m args below meth c H locs 0 0 Q (F0 m pc ls [.int (i2 r)])) (M : Mem) (hf : f_X11_swap_j94 M = some o) {H : Heap} {locs : List Loc} {ls : Array Slot} (hl : lv_has ls 6 []) (w : WS D aC ad A H0 M H locs) : W p l e rm_X11_swap s m args below meth c H locs 0 0 Q (F0 m 94 ls []) := by
  have hx := X.1.1
  have hb := X.1.2.1
  unfold f_X11_swap_j94 at hf
  refine g_iconst X dX11_swap_94 ?_
  exact HR (-1) M _ _ _ _ (Option.some.inj hf).symm (inL rfl) w dX11_swap_95
set_option maxRecDepth 100000 in
set_option maxHeartbeats 4000000 in
theorem b_X11_swap_0 (X : CX p s m args c cX11_swap 6 RX11 D aC ad sg A H0) {o : Int × Mem} (HR : ∀ (r : Int) (M1 : Mem) (H : Heap) (locs : List Loc) (pc : Nat) (ls : Array Slot), o = (r, M1) → inR r → WS D aC ad A H0 M1 H locs → decode cX11_swap pc = .ok (.ireturn, 1) → W p l e rm_X11_swap s m args below meth c H locs 0 0 Q (F0 m pc ls [.int (i2 r)])) (p1 : Int) (hp1 : inR p1) (p2 : Int) (hp2 : inR p2) (M : Mem) (hf : f_X11_swap p1 p2 M = some o) {H : Heap} {locs : List Loc} {ls : Array Slot} (hl : lv_has ls 6 [(0, .ref (ad 80)), (1, .int (i2 p1)), (2, .int (i2 p2))]) (w : WS D aC ad A H0 M H locs) : W p l e rm_X11_swap s m args below meth c H locs 0 0 Q (F0 m 0 ls []) := by
  have hx := X.1.1
  have hb := X.1.2.1
  unfold f_X11_swap at hf
  refine lv_aload_n hx hb dX11_swap_0 rfl (lv_at hl 0 rfl) ?_
  refine g_iconst X dX11_swap_1 ?_
  obtain ⟨M_2, eM_2, hf⟩ := lt_some hf
  refine g_puti X w fp_X11_139 KD_80 FR_80_0 (inL rfl) dX11_swap_2 (fun H locs w_M_2 => ?_)
  rw [← eM_2] at w_M_2
  refine lv_iload_n hx hb dX11_swap_5 rfl (lv_at hl 2 rfl) ?_
  refine g_iconst X dX11_swap_6 ?_
  refine g_iconst X dX11_swap_7 ?_
  obtain ⟨r, hc, hf⟩ := obn_some hf
  refine g_csi (As := [.int (i2 p2), .int (i2 0), .int (i2 1)]) (rest := []) X w_M_2 (k_X11_within X.2.2.1 p2 hp2 0 (inL rfl) 1 (inL rfl) w_M_2.2.2 hc) lk_X11_145 ⟨rfl, rfl⟩ ⟨nle rfl, nle rfl⟩ ⟨nle rfl, nle rfl⟩ hl.1 rfl (nle rfl) dX11_swap_8 (fun hr H locs w_M_2 => ?_)
  refine g_if_ne (tgt := 16) X hr dX11_swap_11 (by decide) (fun cd => ?_) (fun cd => ?_)
  · replace hf := ite_f cd hf
    refine lv_aload_n hx hb dX11_swap_16 rfl (lv_at hl 0 rfl) ?_
    obtain ⟨M_3, hc, hf⟩ := obn_some hf
    refine g_cvv (As := []) (rest := []) X w_M_2 (k_X11_looks X.2.2.1  w_M_2.2.2 hc) lk_X11_381 cl_11 KD_80 ⟨rfl, rfl⟩ ⟨nle rfl, nle rfl⟩ ⟨nle rfl, nle rfl⟩ hl.1 rfl (nle rfl) dX11_swap_17 (fun H locs w_M_3 => ?_)
    refine lv_iload_n hx hb dX11_swap_20 rfl (lv_at hl 1 rfl) ?_
    refine g_istn (v := p1) (lv' := [(3, .int (i2 p1)), (0, .ref (ad 80)), (1, .int (i2 p1)), (2, .int (i2 p2))]) X rfl dX11_swap_21 rfl hl (by decide) rfl (fun ls hl => ?_)
    refine g_iconst X dX11_swap_22 ?_
    refine g_ist (v := 0) (lv' := [(4, .int (i2 0)), (3, .int (i2 p1)), (0, .ref (ad 80)), (1, .int (i2 p1)), (2, .int (i2 p2))]) X rfl dX11_swap_23 hl (by decide) rfl (fun ls hl => ?_)
    obtain ⟨q, hq, h1, h2⟩ := lpr_some hf
    exact l_X11_swap_25 X p2 hp2 (out := q) (fun y3 y4 M1 H locs ls eq hy3 hy4 hl w => b_X11_swap_j94 X  HR M1 (h1 _ eq) (lv_sub hl [] rfl) w) (fun r M1 H locs pc ls eq hP w dg => HR r M1 H locs pc ls (Option.some.inj (h2 _ eq)).symm hP w dg) FU p1 0 M_3 hq hp1 (inL rfl) (lv_sub hl [2, 4, 1, 0] rfl) w_M_3
  · replace hf := ite_t cd hf
    refine g_iconst X dX11_swap_14 ?_
    exact HR (-1) M_2 _ _ _ _ (Option.some.inj hf).symm (inL rfl) w_M_2 dX11_swap_15
set_option maxRecDepth 100000 in
set_option maxHeartbeats 4000000 in
theorem k_X11_swap {l : Launch} {D : va_G} {aC : Nat → ClassId} {ad : Nat → Nat} {sg : SG} (hi : Inj ad) (p1 : Int) (hp1 : inR p1) (p2 : Int) (hp2 : inR p2) {M : Mem} (hM : inM M) {r : Int} {M' : Mem} (hf : f_X11_swap p1 p2 M = some (r, M')) : MetI l D aC ad sg yX11_swap cX11_swap 6 (some .int) rm_X11_swap 0 0 [.ref (ad 80), .int (i2 p1), .int (i2 p2)] M r M' := by
  refine MetI.ofI (by decide +kernel) (nle rfl) hi hM (fun p e s m args below meth c Q H0 ls X hl w hret => ?_)
  exact b_X11_swap_0 X  (fun r1 M1 H locs pc ls eo hP w dg => by cases eo; exact hret H locs pc ls hP w dg) p1 hp1 p2 hp2 M hf hl w
set_option maxRecDepth 100000 in
set_option maxHeartbeats 4000000 in
theorem b_X11_thrown_0 (X : CX p s m args c cX11_thrown 1 RX11 D aC ad sg A H0) {M : Mem} {o : Int} (HR : ∀ (r : Int) (H : Heap) (locs : List Loc) (pc : Nat) (ls : Array Slot), o = r → inR r → WS D aC ad A H0 M H locs → decode cX11_thrown pc = .ok (.ireturn, 1) → W p l e rm_X11_thrown s m args below meth c H locs 0 0 Q (F0 m pc ls [.int (i2 r)])) (hf : f_X11_thrown M = some o) {H : Heap} {locs : List Loc} {ls : Array Slot} (hl : lv_has ls 1 [(0, .ref (ad 80))]) (w : WS D aC ad A H0 M H locs) : W p l e rm_X11_thrown s m args below meth c H locs 0 0 Q (F0 m 0 ls []) := by
  have hx := X.1.1
  have hb := X.1.2.1
  unfold f_X11_thrown at hf
  refine lv_aload_n hx hb dX11_thrown_0 rfl (lv_at hl 0 rfl) ?_
  refine g_geti X w fg_X11_139 KD_80 FR_80_0 dX11_thrown_1 ?_
  exact HR (M 80 0) _ _ _ _ (Option.some.inj hf).symm (w.2.2 _ _) w dX11_thrown_4
set_option maxRecDepth 100000 in
set_option maxHeartbeats 4000000 in
theorem k_X11_thrown {l : Launch} {D : va_G} {aC : Nat → ClassId} {ad : Nat → Nat} {sg : SG} (hi : Inj ad)  {M : Mem} (hM : inM M) {r : Int} (hf : f_X11_thrown M = some r) : MetI l D aC ad sg yX11_thrown cX11_thrown 1 (some .int) rm_X11_thrown 0 0 [.ref (ad 80)] M r M := by
  refine MetI.ofI (by decide +kernel) (nle rfl) hi hM (fun p e s m args below meth c Q H0 ls X hl w hret => ?_)
  exact b_X11_thrown_0 X  (fun r1 H locs pc ls eo hP w dg => by cases eo; exact hret H locs pc ls hP w dg)  hf hl w
set_option maxRecDepth 100000 in
set_option maxHeartbeats 4000000 in
theorem b_X11_lonely_s9 (X : CX p s m args c cX11_lonely 4 RX11 D aC ad sg A H0) {M : Mem} {o : (Int × Int) ⊕ ((Int × Int) ⊕ (Int × Mem))} (HC : ∀ (y2 : Int) (y3 : Int) (H : Heap) (locs : List Loc) (ls : Array Slot), o = .inl (y2, y3) → inR y2 → inR y3 → lv_has ls 4 [(0, .ref (ad 80)), (2, .int (i2 y2)), (3, .int (i2 y3))] → WS D aC ad A H0 M H locs → W p l e rm_X11_lonely s m args below meth c H locs 0 0 Q (F0 m 9 ls [])) (HE : ∀ (y2 : Int) (y3 : Int) (H : Heap) (locs : List Loc) (ls : Array Slot), o = .inr (.inl (y2, y3)) → inR y2 → inR y3 → lv_has ls 4 [(0, .ref (ad 80)), (2, .int (i2 y2)), (3, .int (i2 y3))] → WS D aC ad A H0 M H locs → W p l e rm_X11_lonely s m args below meth c H locs 0 0 Q (F0 m 43 ls [])) (HR : ∀ (r : Int) (M1 : Mem) (H : Heap) (locs : List Loc) (pc : Nat) (ls : Array Slot), o = .inr (.inr (r, M1)) → inR r → WS D aC ad A H0 M1 H locs → decode cX11_lonely pc = .ok (.ireturn, 1) → W p l e rm_X11_lonely s m args below meth c H locs 0 0 Q (F0 m pc ls [.int (i2 r)])) (v2 : Int) (hv2 : inR v2) (v3 : Int) (hv3 : inR v3) (hf : f_X11_lonely_s9 M v2 v3 = some o) {H : Heap} {locs : List Loc} {ls : Array Slot} (hl : lv_has ls 4 [(0, .ref (ad 80)), (2, .int (i2 v2)), (3, .int (i2 v3))]) (w : WS D aC ad A H0 M H locs) : W p l e rm_X11_lonely s m args below meth c H locs 0 0 Q (F0 m 9 ls []) := by
  have hx := X.1.1
  have hb := X.1.2.1
  unfold f_X11_lonely_s9 at hf
  refine lv_iload_n hx hb dX11_lonely_9 rfl (lv_at hl 2 rfl) ?_
  refine lv_aload_n hx hb dX11_lonely_10 rfl (lv_at hl 0 rfl) ?_
  refine g_geti X w fg_X11_142 KD_80 FR_80_1 dX11_lonely_11 ?_
  refine g_icmp_ge (tgt := 43) X hv3 (w.2.2 _ _) dX11_lonely_14 (by decide) (fun cd => ?_) (fun cd => ?_)
  · replace hf := ite_t cd hf
    exact HE v2 v3 _ _ _ (Option.some.inj hf).symm hv2 hv3 hl w
  · replace hf := ite_f cd hf
    refine lv_aload_n hx hb dX11_lonely_17 rfl (lv_at hl 0 rfl) ?_
    refine lv_iload_n hx hb dX11_lonely_18 rfl (lv_at hl 2 rfl) ?_
    obtain ⟨r, hc, hf⟩ := obn_some hf
    refine g_cvi (As := [.int (i2 v3)]) (rest := []) X w (k_X11_namedBy X.2.2.1 v3 hv3 w.2.2 hc) lk_X11_316 cl_11 KD_80 ⟨rfl, rfl⟩ ⟨nle rfl, nle rfl⟩ ⟨nle rfl, nle rfl⟩ hl.1 rfl (nle rfl) dX11_lonely_19 (fun hr H locs w => ?_)
    refine g_if_le (tgt := 28) X hr dX11_lonely_22 (by decide) (fun cd_2 => ?_) (fun cd_2 => ?_)
    · replace hf := ite_t cd_2 hf
      refine lv_iload_n hx hb dX11_lonely_28 rfl (lv_at hl 1 rfl) ?_
      refine g_if_ne (tgt := 34) X hv2 dX11_lonely_29 (by decide) (fun cd_3 => ?_) (fun cd_3 => ?_)
      · replace hf := ite_f cd_3 hf
        obtain ⟨v2_2, ev2_2, hf⟩ := lt_some hf
        have hv2_2 : inR v2_2 := inR_of ev2_2 (inR_wrap _)
        refine lv_iinc (v := i2 v2_2) (lv' := [(2, .int (i2 v2_2)), (0, .ref (ad 80)), (3, .int (i2 v3))]) hx hb dX11_lonely_34 hl (k := 1) rfl (by rw [ev2_2]; exact i2_add _ _) (by decide) rfl (fun ls hl => ?_)
        obtain ⟨v3_2, ev3_2, hf⟩ := lt_some hf
        have hv3_2 : inR v3_2 := inR_of ev3_2 (inR_wrap _)
        refine lv_iinc (v := i2 v3_2) (lv' := [(3, .int (i2 v3_2)), (2, .int (i2 v2_2)), (0, .ref (ad 80))]) hx hb dX11_lonely_37 hl (k := 2) rfl (by rw [ev3_2]; exact i2_add _ _) (by decide) rfl (fun ls hl => ?_)
        refine lv_goto (tgt := 9) hx hb dX11_lonely_40 (by decide) ?_
        exact HC v2_2 v3_2 _ _ _ (Option.some.inj hf).symm hv2_2 hv3_2 (lv_sub hl [2, 1, 0] rfl) w
      · replace hf := ite_t cd_3 hf
        refine lv_iload_n hx hb dX11_lonely_32 rfl (lv_at hl 2 rfl) ?_
        exact HR v3 M _ _ _ _ (Option.some.inj hf).symm hv3 w dX11_lonely_33
    · replace hf := ite_f cd_2 hf
      refine lv_goto (tgt := 37) hx hb dX11_lonely_25 (by decide) ?_
      obtain ⟨v3_3, ev3_3, hf⟩ := lt_some hf
      have hv3_3 : inR v3_3 := inR_of ev3_3 (inR_wrap _)
      refine lv_iinc (v := i2 v3_3) (lv' := [(3, .int (i2 v3_3)), (0, .ref (ad 80)), (2, .int (i2 v2))]) hx hb dX11_lonely_37 hl (k := 2) rfl (by rw [ev3_3]; exact i2_add _ _) (by decide) rfl (fun ls hl => ?_)
      refine lv_goto (tgt := 9) hx hb dX11_lonely_40 (by decide) ?_
      exact HC v2 v3_3 _ _ _ (Option.some.inj hf).symm hv2 hv3_3 (lv_sub hl [1, 2, 0] rfl) w
set_option maxRecDepth 100000 in
set_option maxHeartbeats 4000000 in
theorem l_X11_lonely_9 (X : CX p s m args c cX11_lonely 4 RX11 D aC ad sg A H0) {M : Mem} {out : (Int × Int) ⊕ (Int × Mem)} (HE : ∀ (y2 : Int) (y3 : Int) (H : Heap) (locs : List Loc) (ls : Array Slot), out = .inl (y2, y3) → inR y2 → inR y3 → lv_has ls 4 [(0, .ref (ad 80)), (2, .int (i2 y2)), (3, .int (i2 y3))] → WS D aC ad A H0 M H locs → W p l e rm_X11_lonely s m args below meth c H locs 0 0 Q (F0 m 43 ls [])) (HR : ∀ (r : Int) (M1 : Mem) (H : Heap) (locs : List Loc) (pc : Nat) (ls : Array Slot), out = .inr (r, M1) → inR r → WS D aC ad A H0 M1 H locs → decode cX11_lonely pc = .ok (.ireturn, 1) → W p l e rm_X11_lonely s m args below meth c H locs 0 0 Q (F0 m pc ls [.int (i2 r)])) : ∀ (n : Nat) (v2 : Int) (v3 : Int), whl (fun s => f_X11_lonely_s9 M s.1 s.2) n (v2, v3) = some out → inR v2 → inR v3 → ∀ {H : Heap} {locs : List Loc} {ls : Array Slot}, lv_has ls 4 [(0, .ref (ad 80)), (2, .int (i2 v2)), (3, .int (i2 v3))] → WS D aC ad A H0 M H locs → W p l e rm_X11_lonely s m args below meth c H locs 0 0 Q (F0 m 9 ls []) := by
  intro n
  induction n with
  | zero => intro v2 v3 hf; exact (whl_zero hf).elim
  | succ n ih =>
    intro v2 v3 hf hv2 hv3 H locs ls hl w
    obtain ⟨o, hf, hk1, hk2⟩ := whl_step hf
    exact b_X11_lonely_s9 X  (fun y2 y3 H locs ls eo hy2 hy3 hl w => ih y2 y3 (hk1 _ eo) hy2 hy3 hl w) (fun y2 y3 H locs ls eo hy2 hy3 hl w => HE y2 y3 H locs ls (hk2 _ eo).symm hy2 hy3 hl w) (fun r M1 H locs pc ls eo hP w dg => HR r M1 H locs pc ls (hk2 _ eo).symm hP w dg) v2 hv2 v3 hv3 hf hl w
set_option maxRecDepth 100000 in
set_option maxHeartbeats 4000000 in
theorem b_X11_lonely_j43 (X : CX p s m args c cX11_lonely 4 RX11 D aC ad sg A H0) {o : Int × Mem} (HR : ∀ (r : Int) (M1 : Mem) (H : Heap) (locs : List Loc) (pc : Nat) (ls : Array Slot), o = (r, M1) → inR r → WS D aC ad A H0 M1 H locs → decode cX11_lonely pc = .ok (.ireturn, 1) → W p l e rm_X11_lonely s m args below meth c H locs 0 0 Q (F0 m pc ls [.int (i2 r)])) (M : Mem) (hf : f_X11_lonely_j43 M = some o) {H : Heap} {locs : List Loc} {ls : Array Slot} (hl : lv_has ls 4 []) (w : WS D aC ad A H0 M H locs) : W p l e rm_X11_lonely s m args below meth c H locs 0 0 Q (F0 m 43 ls []) := by
  have hx := X.1.1
  have hb := X.1.2.1
  unfold f_X11_lonely_j43 at hf
  refine g_iconst X dX11_lonely_43 ?_
  exact HR (-1) M _ _ _ _ (Option.some.inj hf).symm (inL rfl) w dX11_lonely_44
set_option maxRecDepth 100000 in
set_option maxHeartbeats 4000000 in
theorem b_X11_lonely_0 (X : CX p s m args c cX11_lonely 4 RX11 D aC ad sg A H0) {o : Int × Mem} (HR : ∀ (r : Int) (M1 : Mem) (H : Heap) (locs : List Loc) (pc : Nat) (ls : Array Slot), o = (r, M1) → inR r → WS D aC ad A H0 M1 H locs → decode cX11_lonely pc = .ok (.ireturn, 1) → W p l e rm_X11_lonely s m args below meth c H locs 0 0 Q (F0 m pc ls [.int (i2 r)])) (p1 : Int) (hp1 : inR p1) (M : Mem) (hf : f_X11_lonely p1 M = some o) {H : Heap} {locs : List Loc} {ls : Array Slot} (hl : lv_has ls 4 [(0, .ref (ad 80)), (1, .int (i2 p1))]) (w : WS D aC ad A H0 M H locs) : W p l e rm_X11_lonely s m args below meth c H locs 0 0 Q (F0 m 0 ls []) := by
  have hx := X.1.1
  have hb := X.1.2.1
  unfold f_X11_lonely at hf
  refine lv_aload_n hx hb dX11_lonely_0 rfl (lv_at hl 0 rfl) ?_
  refine g_iconst X dX11_lonely_1 ?_
  obtain ⟨M_2, eM_2, hf⟩ := lt_some hf
  refine g_puti X w fp_X11_139 KD_80 FR_80_0 (inL rfl) dX11_lonely_2 (fun H locs w_M_2 => ?_)
  rw [← eM_2] at w_M_2
  refine lv_iload_n hx hb dX11_lonely_5 rfl (lv_at hl 1 rfl) ?_
  refine g_istn (v := p1) (lv' := [(2, .int (i2 p1)), (0, .ref (ad 80)), (1, .int (i2 p1))]) X rfl dX11_lonely_6 rfl hl (by decide) rfl (fun ls hl => ?_)
  refine g_iconst X dX11_lonely_7 ?_
  refine g_istn (v := 0) (lv' := [(3, .int (i2 0)), (2, .int (i2 p1)), (0, .ref (ad 80)), (1, .int (i2 p1))]) X rfl dX11_lonely_8 rfl hl (by decide) rfl (fun ls hl => ?_)
  obtain ⟨q, hq, h1, h2⟩ := lpr_some hf
  exact l_X11_lonely_9 X  (out := q) (fun y2 y3 H locs ls eq hy2 hy3 hl w => b_X11_lonely_j43 X  HR M_2 (h1 _ eq) (lv_sub hl [] rfl) w) (fun r M1 H locs pc ls eq hP w dg => HR r M1 H locs pc ls (Option.some.inj (h2 _ eq)).symm hP w dg) FU p1 0 hq hp1 (inL rfl) (lv_sub hl [2, 1, 0] rfl) w_M_2
set_option maxRecDepth 100000 in
set_option maxHeartbeats 4000000 in
theorem k_X11_lonely {l : Launch} {D : va_G} {aC : Nat → ClassId} {ad : Nat → Nat} {sg : SG} (hi : Inj ad) (p1 : Int) (hp1 : inR p1) {M : Mem} (hM : inM M) {r : Int} {M' : Mem} (hf : f_X11_lonely p1 M = some (r, M')) : MetI l D aC ad sg yX11_lonely cX11_lonely 4 (some .int) rm_X11_lonely 0 0 [.ref (ad 80), .int (i2 p1)] M r M' := by
  refine MetI.ofI (by decide +kernel) (nle rfl) hi hM (fun p e s m args below meth c Q H0 ls X hl w hret => ?_)
  exact b_X11_lonely_0 X  (fun r1 M1 H locs pc ls eo hP w dg => by cases eo; exact hret H locs pc ls hP w dg) p1 hp1 M hf hl w
set_option maxRecDepth 100000 in
set_option maxHeartbeats 4000000 in
theorem b_X11_leads_s2 (X : CX p s m args c cX11_leads 4 RX11 D aC ad sg A H0) (v1 : Int) (hv1 : inR v1) {o : (Int × Mem) ⊕ (Int × Mem)} (HC : ∀ (y2 : Int) (M1 : Mem) (H : Heap) (locs : List Loc) (ls : Array Slot), o = .inl (y2, M1) → inR y2 → lv_has ls 4 [(0, .ref (ad 80)), (1, .int (i2 v1)), (2, .int (i2 y2))] → WS D aC ad A H0 M1 H locs → W p l e rm_X11_leads s m args below meth c H locs 0 0 Q (F0 m 2 ls [])) (HE : ∀ (y2 : Int) (M1 : Mem) (H : Heap) (locs : List Loc) (ls : Array Slot), o = .inr (y2, M1) → inR y2 → lv_has ls 4 [(0, .ref (ad 80)), (1, .int (i2 v1)), (2, .int (i2 y2))] → WS D aC ad A H0 M1 H locs → W p l e rm_X11_leads s m args below meth c H locs 0 0 Q (F0 m 32 ls [])) (v2 : Int) (hv2 : inR v2) (M : Mem) (hf : f_X11_leads_s2 v1 v2 M = some o) {H : Heap} {locs : List Loc} {ls : Array Slot} (hl : lv_has ls 4 [(0, .ref (ad 80)), (1, .int (i2 v1)), (2, .int (i2 v2))]) (w : WS D aC ad A H0 M H locs) : W p l e rm_X11_leads s m args below meth c H locs 0 0 Q (F0 m 2 ls []) := by
  have hx := X.1.1
  have hb := X.1.2.1
  unfold f_X11_leads_s2 at hf
  refine lv_iload_n hx hb dX11_leads_2 rfl (lv_at hl 2 rfl) ?_
  refine lv_aload_n hx hb dX11_leads_3 rfl (lv_at hl 0 rfl) ?_
  refine g_geti X w fg_X11_142 KD_80 FR_80_1 dX11_leads_4 ?_
  refine g_icmp_ge (tgt := 32) X hv2 (w.2.2 _ _) dX11_leads_7 (by decide) (fun cd => ?_) (fun cd => ?_)
  · replace hf := ite_t cd hf
    exact HE v2 M _ _ _ (Option.some.inj hf).symm hv2 hl w
  · replace hf := ite_f cd hf
    refine lv_aload_n hx hb dX11_leads_10 rfl (lv_at hl 0 rfl) ?_
    refine g_getr X w fg_X11_112 KD_80 FR_80_49 dX11_leads_11 ?_
    refine lv_iload_n hx hb dX11_leads_14 rfl (lv_at hl 2 rfl) ?_
    refine lv_iload_n hx hb dX11_leads_15 rfl (lv_at hl 2 rfl) ?_
    refine lv_iload_n hx hb dX11_leads_16 rfl (lv_at hl 1 rfl) ?_
    refine g_icmp_ne (tgt := 24) X hv2 hv1 dX11_leads_17 (by decide) (fun cd_2 => ?_) (fun cd_2 => ?_)
    · replace hf := ite_f cd_2 hf
      refine g_iconst X dX11_leads_24 ?_
      obtain ⟨hg, hf⟩ := gd_some hf
      obtain ⟨M_2, eM_2, hf⟩ := lt_some hf
      refine g_zast X w KD_111 hv2 hg (Or.inl rfl) dX11_leads_25 (fun H locs w_M_2 => ?_)
      rw [← eM_2] at w_M_2
      obtain ⟨v2_2, ev2_2, hf⟩ := lt_some hf
      have hv2_2 : inR v2_2 := inR_of ev2_2 (inR_wrap _)
      refine lv_iinc (v := i2 v2_2) (lv' := [(2, .int (i2 v2_2)), (0, .ref (ad 80)), (1, .int (i2 v1))]) hx hb dX11_leads_26 hl (k := 2) rfl (by rw [ev2_2]; exact i2_add _ _) (by decide) rfl (fun ls hl => ?_)
      refine lv_goto (tgt := 2) hx hb dX11_leads_29 (by decide) ?_
      exact HC v2_2 M_2 _ _ _ (Option.some.inj hf).symm hv2_2 (lv_sub hl [1, 2, 0] rfl) w_M_2
    · replace hf := ite_t cd_2 hf
      refine g_iconst X dX11_leads_20 ?_
      refine lv_goto (tgt := 25) hx hb dX11_leads_21 (by decide) ?_
      obtain ⟨hg_2, hf⟩ := gd_some hf
      obtain ⟨M_3, eM_3, hf⟩ := lt_some hf
      refine g_zast X w KD_111 hv2 hg_2 (Or.inr rfl) dX11_leads_25 (fun H locs w_M_3 => ?_)
      rw [← eM_3] at w_M_3
      obtain ⟨v2_3, ev2_3, hf⟩ := lt_some hf
      have hv2_3 : inR v2_3 := inR_of ev2_3 (inR_wrap _)
      refine lv_iinc (v := i2 v2_3) (lv' := [(2, .int (i2 v2_3)), (0, .ref (ad 80)), (1, .int (i2 v1))]) hx hb dX11_leads_26 hl (k := 2) rfl (by rw [ev2_3]; exact i2_add _ _) (by decide) rfl (fun ls hl => ?_)
      refine lv_goto (tgt := 2) hx hb dX11_leads_29 (by decide) ?_
      exact HC v2_3 M_3 _ _ _ (Option.some.inj hf).symm hv2_3 (lv_sub hl [1, 2, 0] rfl) w_M_3
set_option maxRecDepth 100000 in
set_option maxHeartbeats 4000000 in
theorem l_X11_leads_2 (X : CX p s m args c cX11_leads 4 RX11 D aC ad sg A H0) (v1 : Int) (hv1 : inR v1) {out : Int × Mem} (HE : ∀ (y2 : Int) (M1 : Mem) (H : Heap) (locs : List Loc) (ls : Array Slot), out = (y2, M1) → inR y2 → lv_has ls 4 [(0, .ref (ad 80)), (1, .int (i2 v1)), (2, .int (i2 y2))] → WS D aC ad A H0 M1 H locs → W p l e rm_X11_leads s m args below meth c H locs 0 0 Q (F0 m 32 ls [])) : ∀ (n : Nat) (v2 : Int) (M : Mem), whl (fun s => f_X11_leads_s2 v1 s.1 s.2) n (v2, M) = some out → inR v2 → ∀ {H : Heap} {locs : List Loc} {ls : Array Slot}, lv_has ls 4 [(0, .ref (ad 80)), (1, .int (i2 v1)), (2, .int (i2 v2))] → WS D aC ad A H0 M H locs → W p l e rm_X11_leads s m args below meth c H locs 0 0 Q (F0 m 2 ls []) := by
  intro n
  induction n with
  | zero => intro v2 M hf; exact (whl_zero hf).elim
  | succ n ih =>
    intro v2 M hf hv2 H locs ls hl w
    obtain ⟨o, hf, hk1, hk2⟩ := whl_step hf
    exact b_X11_leads_s2 X v1 hv1 (fun y2 M1 H locs ls eo hy2 hl w => ih y2 M1 (hk1 _ eo) hy2 hl w) (fun y2 M1 H locs ls eo hy2 hl w => HE y2 M1 H locs ls (hk2 _ eo).symm hy2 hl w) v2 hv2 M hf hl w
set_option maxRecDepth 100000 in
set_option maxHeartbeats 4000000 in
theorem b_X11_leads_s44 (X : CX p s m args c cX11_leads 4 RX11 D aC ad sg A H0) (v2 : Int) (hv2 : inR v2) {o : (Int × Mem) ⊕ (Int × Mem)} (HC : ∀ (y3 : Int) (M1 : Mem) (H : Heap) (locs : List Loc) (ls : Array Slot), o = .inl (y3, M1) → inR y3 → lv_has ls 4 [(0, .ref (ad 80)), (2, .int (i2 v2)), (3, .int (i2 y3))] → WS D aC ad A H0 M1 H locs → W p l e rm_X11_leads s m args below meth c H locs 0 0 Q (F0 m 44 ls [])) (HE : ∀ (y3 : Int) (M1 : Mem) (H : Heap) (locs : List Loc) (ls : Array Slot), o = .inr (y3, M1) → inR y3 → lv_has ls 4 [(0, .ref (ad 80)), (2, .int (i2 v2)), (3, .int (i2 y3))] → WS D aC ad A H0 M1 H locs → W p l e rm_X11_leads s m args below meth c H locs 0 0 Q (F0 m 93 ls [])) (v3 : Int) (hv3 : inR v3) (M : Mem) (hf : f_X11_leads_s44 v2 v3 M = some o) {H : Heap} {locs : List Loc} {ls : Array Slot} (hl : lv_has ls 4 [(0, .ref (ad 80)), (2, .int (i2 v2)), (3, .int (i2 v3))]) (w : WS D aC ad A H0 M H locs) : W p l e rm_X11_leads s m args below meth c H locs 0 0 Q (F0 m 44 ls []) := by
  have hx := X.1.1
  have hb := X.1.2.1
  unfold f_X11_leads_s44 at hf
  refine lv_iload_n hx hb dX11_leads_44 rfl (lv_at hl 2 rfl) ?_
  refine g_iconst X dX11_leads_45 ?_
  refine lv_aload_n hx hb dX11_leads_46 rfl (lv_at hl 0 rfl) ?_
  refine g_geti X w fg_X11_142 KD_80 FR_80_1 dX11_leads_47 ?_
  refine g_imul X dX11_leads_50 ?_
  refine g_icmp_ge (tgt := 93) X hv3 (inR_wrap _) dX11_leads_51 (by decide) (fun cd => ?_) (fun cd => ?_)
  · replace hf := ite_t cd hf
    exact HE v3 M _ _ _ (Option.some.inj hf).symm hv3 hl w
  · replace hf := ite_f cd hf
    refine lv_aload_n hx hb dX11_leads_54 rfl (lv_at hl 0 rfl) ?_
    refine g_getr X w fg_X11_112 KD_80 FR_80_49 dX11_leads_55 ?_
    refine lv_iload_n hx hb dX11_leads_58 rfl (lv_at hl 2 rfl) ?_
    refine g_iconst X dX11_leads_59 ?_
    refine g_idiv X (inL rfl) (by decide) dX11_leads_60 ?_
    obtain ⟨hg, hf⟩ := gd_some hf
    refine g_zald X w KD_111 (inR_toInt _) hg dX11_leads_61 ?_
    refine g_if_eq (tgt := 87) X (w.2.2 _ _) dX11_leads_62 (by decide) (fun cd_2 => ?_) (fun cd_2 => ?_)
    · replace hf := ite_t cd_2 hf
      obtain ⟨v3_2, ev3_2, hf⟩ := lt_some hf
      have hv3_2 : inR v3_2 := inR_of ev3_2 (inR_wrap _)
      refine lv_iinc (v := i2 v3_2) (lv' := [(3, .int (i2 v3_2)), (0, .ref (ad 80)), (2, .int (i2 v2))]) hx hb dX11_leads_87 hl (k := 2) rfl (by rw [ev3_2]; exact i2_add _ _) (by decide) rfl (fun ls hl => ?_)
      refine lv_goto (tgt := 44) hx hb dX11_leads_90 (by decide) ?_
      exact HC v3_2 M _ _ _ (Option.some.inj hf).symm hv3_2 (lv_sub hl [1, 2, 0] rfl) w
    · replace hf := ite_f cd_2 hf
      refine lv_aload_n hx hb dX11_leads_65 rfl (lv_at hl 0 rfl) ?_
      refine g_getr X w fg_X11_25 KD_80 FR_80_7 dX11_leads_66 ?_
      refine lv_iload_n hx hb dX11_leads_69 rfl (lv_at hl 2 rfl) ?_
      obtain ⟨hg_2, hf⟩ := gd_some hf
      refine g_iald X w KD_86 hv3 hg_2 dX11_leads_70 ?_
      refine g_iconst X dX11_leads_71 ?_
      refine g_icmp_eq (tgt := 87) X (w.2.2 _ _) (inL rfl) dX11_leads_72 (by decide) (fun cd_3 => ?_) (fun cd_3 => ?_)
      · replace hf := ite_t cd_3 hf
        obtain ⟨v3_3, ev3_3, hf⟩ := lt_some hf
        have hv3_3 : inR v3_3 := inR_of ev3_3 (inR_wrap _)
        refine lv_iinc (v := i2 v3_3) (lv' := [(3, .int (i2 v3_3)), (0, .ref (ad 80)), (2, .int (i2 v2))]) hx hb dX11_leads_87 hl (k := 2) rfl (by rw [ev3_3]; exact i2_add _ _) (by decide) rfl (fun ls hl => ?_)
        refine lv_goto (tgt := 44) hx hb dX11_leads_90 (by decide) ?_
        exact HC v3_3 M _ _ _ (Option.some.inj hf).symm hv3_3 (lv_sub hl [1, 2, 0] rfl) w
      · replace hf := ite_f cd_3 hf
        refine lv_aload_n hx hb dX11_leads_75 rfl (lv_at hl 0 rfl) ?_
        refine g_getr X w fg_X11_112 KD_80 FR_80_49 dX11_leads_76 ?_
        refine lv_aload_n hx hb dX11_leads_79 rfl (lv_at hl 0 rfl) ?_
        refine g_getr X w fg_X11_25 KD_80 FR_80_7 dX11_leads_80 ?_
        refine lv_iload_n hx hb dX11_leads_83 rfl (lv_at hl 2 rfl) ?_
        obtain ⟨hg_3, hf⟩ := gd_some hf
        refine g_iald X w KD_86 hv3 hg_3 dX11_leads_84 ?_
        refine g_iconst X dX11_leads_85 ?_
        obtain ⟨hg_4, hf⟩ := gd_some hf
        obtain ⟨M_2, eM_2, hf⟩ := lt_some hf
        refine g_zast X w KD_111 (w.2.2 _ _) hg_4 (Or.inr rfl) dX11_leads_86 (fun H locs w_M_2 => ?_)
        rw [← eM_2] at w_M_2
        obtain ⟨v3_4, ev3_4, hf⟩ := lt_some hf
        have hv3_4 : inR v3_4 := inR_of ev3_4 (inR_wrap _)
        refine lv_iinc (v := i2 v3_4) (lv' := [(3, .int (i2 v3_4)), (0, .ref (ad 80)), (2, .int (i2 v2))]) hx hb dX11_leads_87 hl (k := 2) rfl (by rw [ev3_4]; exact i2_add _ _) (by decide) rfl (fun ls hl => ?_)
        refine lv_goto (tgt := 44) hx hb dX11_leads_90 (by decide) ?_
        exact HC v3_4 M_2 _ _ _ (Option.some.inj hf).symm hv3_4 (lv_sub hl [1, 2, 0] rfl) w_M_2
set_option maxRecDepth 100000 in
set_option maxHeartbeats 4000000 in
theorem l_X11_leads_44 (X : CX p s m args c cX11_leads 4 RX11 D aC ad sg A H0) (v2 : Int) (hv2 : inR v2) {out : Int × Mem} (HE : ∀ (y3 : Int) (M1 : Mem) (H : Heap) (locs : List Loc) (ls : Array Slot), out = (y3, M1) → inR y3 → lv_has ls 4 [(0, .ref (ad 80)), (2, .int (i2 v2)), (3, .int (i2 y3))] → WS D aC ad A H0 M1 H locs → W p l e rm_X11_leads s m args below meth c H locs 0 0 Q (F0 m 93 ls [])) : ∀ (n : Nat) (v3 : Int) (M : Mem), whl (fun s => f_X11_leads_s44 v2 s.1 s.2) n (v3, M) = some out → inR v3 → ∀ {H : Heap} {locs : List Loc} {ls : Array Slot}, lv_has ls 4 [(0, .ref (ad 80)), (2, .int (i2 v2)), (3, .int (i2 v3))] → WS D aC ad A H0 M H locs → W p l e rm_X11_leads s m args below meth c H locs 0 0 Q (F0 m 44 ls []) := by
  intro n
  induction n with
  | zero => intro v3 M hf; exact (whl_zero hf).elim
  | succ n ih =>
    intro v3 M hf hv3 H locs ls hl w
    obtain ⟨o, hf, hk1, hk2⟩ := whl_step hf
    exact b_X11_leads_s44 X v2 hv2 (fun y3 M1 H locs ls eo hy3 hl w => ih y3 M1 (hk1 _ eo) hy3 hl w) (fun y3 M1 H locs ls eo hy3 hl w => HE y3 M1 H locs ls (hk2 _ eo).symm hy3 hl w) v3 hv3 M hf hl w
set_option maxRecDepth 100000 in
set_option maxHeartbeats 4000000 in
theorem b_X11_leads_j93k34 (X : CX p s m args c cX11_leads 4 RX11 D aC ad sg A H0) {o : (Int × Mem) ⊕ (Int × Mem)} (HC : ∀ (y2 : Int) (M1 : Mem) (H : Heap) (locs : List Loc) (ls : Array Slot), o = .inl (y2, M1) → inR y2 → lv_has ls 4 [(0, .ref (ad 80)), (2, .int (i2 y2))] → WS D aC ad A H0 M1 H locs → W p l e rm_X11_leads s m args below meth c H locs 0 0 Q (F0 m 34 ls [])) (HE : ∀ (y2 : Int) (M1 : Mem) (H : Heap) (locs : List Loc) (ls : Array Slot), o = .inr (y2, M1) → inR y2 → lv_has ls 4 [(0, .ref (ad 80)), (2, .int (i2 y2))] → WS D aC ad A H0 M1 H locs → W p l e rm_X11_leads s m args below meth c H locs 0 0 Q (F0 m 99 ls [])) (v2 : Int) (hv2 : inR v2) (M : Mem) (hf : f_X11_leads_j93k34 v2 M = some o) {H : Heap} {locs : List Loc} {ls : Array Slot} (hl : lv_has ls 4 [(0, .ref (ad 80)), (2, .int (i2 v2))]) (w : WS D aC ad A H0 M H locs) : W p l e rm_X11_leads s m args below meth c H locs 0 0 Q (F0 m 93 ls []) := by
  have hx := X.1.1
  have hb := X.1.2.1
  unfold f_X11_leads_j93k34 at hf
  obtain ⟨v2_2, ev2_2, hf⟩ := lt_some hf
  have hv2_2 : inR v2_2 := inR_of ev2_2 (inR_wrap _)
  refine lv_iinc (v := i2 v2_2) (lv' := [(2, .int (i2 v2_2)), (0, .ref (ad 80))]) hx hb dX11_leads_93 hl (k := 1) rfl (by rw [ev2_2]; exact i2_add _ _) (by decide) rfl (fun ls hl => ?_)
  refine lv_goto (tgt := 34) hx hb dX11_leads_96 (by decide) ?_
  exact HC v2_2 M _ _ _ (Option.some.inj hf).symm hv2_2 (lv_sub hl [1, 0] rfl) w
set_option maxRecDepth 100000 in
set_option maxHeartbeats 4000000 in
theorem b_X11_leads_s34 (X : CX p s m args c cX11_leads 4 RX11 D aC ad sg A H0) {o : (Int × Mem) ⊕ (Int × Mem)} (HC : ∀ (y2 : Int) (M1 : Mem) (H : Heap) (locs : List Loc) (ls : Array Slot), o = .inl (y2, M1) → inR y2 → lv_has ls 4 [(0, .ref (ad 80)), (2, .int (i2 y2))] → WS D aC ad A H0 M1 H locs → W p l e rm_X11_leads s m args below meth c H locs 0 0 Q (F0 m 34 ls [])) (HE : ∀ (y2 : Int) (M1 : Mem) (H : Heap) (locs : List Loc) (ls : Array Slot), o = .inr (y2, M1) → inR y2 → lv_has ls 4 [(0, .ref (ad 80)), (2, .int (i2 y2))] → WS D aC ad A H0 M1 H locs → W p l e rm_X11_leads s m args below meth c H locs 0 0 Q (F0 m 99 ls [])) (v2 : Int) (hv2 : inR v2) (M : Mem) (hf : f_X11_leads_s34 v2 M = some o) {H : Heap} {locs : List Loc} {ls : Array Slot} (hl : lv_has ls 4 [(0, .ref (ad 80)), (2, .int (i2 v2))]) (w : WS D aC ad A H0 M H locs) : W p l e rm_X11_leads s m args below meth c H locs 0 0 Q (F0 m 34 ls []) := by
  have hx := X.1.1
  have hb := X.1.2.1
  unfold f_X11_leads_s34 at hf
  refine lv_iload_n hx hb dX11_leads_34 rfl (lv_at hl 1 rfl) ?_
  refine lv_aload_n hx hb dX11_leads_35 rfl (lv_at hl 0 rfl) ?_
  refine g_geti X w fg_X11_142 KD_80 FR_80_1 dX11_leads_36 ?_
  refine g_icmp_ge (tgt := 99) X hv2 (w.2.2 _ _) dX11_leads_39 (by decide) (fun cd => ?_) (fun cd => ?_)
  · replace hf := ite_t cd hf
    exact HE v2 M _ _ _ (Option.some.inj hf).symm hv2 hl w
  · replace hf := ite_f cd hf
    refine g_iconst X dX11_leads_42 ?_
    refine g_istn (v := 0) (lv' := [(3, .int (i2 0)), (0, .ref (ad 80)), (2, .int (i2 v2))]) X rfl dX11_leads_43 rfl hl (by decide) rfl (fun ls hl => ?_)
    obtain ⟨q, hq, h1⟩ := obn_some hf
    exact l_X11_leads_44 X v2 hv2 (out := q) (fun y3 M1 H locs ls eq hy3 hl w => b_X11_leads_j93k34 X  HC HE v2 hv2 M1 (by subst eq; exact h1) (lv_sub hl [0, 1] rfl) w)  FU 0 M hq (inL rfl) (lv_sub hl [1, 2, 0] rfl) w
set_option maxRecDepth 100000 in
set_option maxHeartbeats 4000000 in
theorem l_X11_leads_34 (X : CX p s m args c cX11_leads 4 RX11 D aC ad sg A H0) {out : Int × Mem} (HE : ∀ (y2 : Int) (M1 : Mem) (H : Heap) (locs : List Loc) (ls : Array Slot), out = (y2, M1) → inR y2 → lv_has ls 4 [(0, .ref (ad 80)), (2, .int (i2 y2))] → WS D aC ad A H0 M1 H locs → W p l e rm_X11_leads s m args below meth c H locs 0 0 Q (F0 m 99 ls [])) : ∀ (n : Nat) (v2 : Int) (M : Mem), whl (fun s => f_X11_leads_s34 s.1 s.2) n (v2, M) = some out → inR v2 → ∀ {H : Heap} {locs : List Loc} {ls : Array Slot}, lv_has ls 4 [(0, .ref (ad 80)), (2, .int (i2 v2))] → WS D aC ad A H0 M H locs → W p l e rm_X11_leads s m args below meth c H locs 0 0 Q (F0 m 34 ls []) := by
  intro n
  induction n with
  | zero => intro v2 M hf; exact (whl_zero hf).elim
  | succ n ih =>
    intro v2 M hf hv2 H locs ls hl w
    obtain ⟨o, hf, hk1, hk2⟩ := whl_step hf
    exact b_X11_leads_s34 X  (fun y2 M1 H locs ls eo hy2 hl w => ih y2 M1 (hk1 _ eo) hy2 hl w) (fun y2 M1 H locs ls eo hy2 hl w => HE y2 M1 H locs ls (hk2 _ eo).symm hy2 hl w) v2 hv2 M hf hl w
set_option maxRecDepth 100000 in
set_option maxHeartbeats 4000000 in
theorem b_X11_leads_j99 (X : CX p s m args c cX11_leads 4 RX11 D aC ad sg A H0) {o : Mem} (HR : ∀ (M1 : Mem) (H : Heap) (locs : List Loc) (pc : Nat) (ls : Array Slot), o = M1 → WS D aC ad A H0 M1 H locs → decode cX11_leads pc = .ok (.return_, 1) → W p l e rm_X11_leads s m args below meth c H locs 0 0 Q (F0 m pc ls [])) (M : Mem) (hf : f_X11_leads_j99 M = some o) {H : Heap} {locs : List Loc} {ls : Array Slot} (hl : lv_has ls 4 []) (w : WS D aC ad A H0 M H locs) : W p l e rm_X11_leads s m args below meth c H locs 0 0 Q (F0 m 99 ls []) := by
  have hx := X.1.1
  have hb := X.1.2.1
  unfold f_X11_leads_j99 at hf
  exact HR M _ _ _ _ (Option.some.inj hf).symm w dX11_leads_99
set_option maxRecDepth 100000 in
set_option maxHeartbeats 4000000 in
theorem b_X11_leads_j32 (X : CX p s m args c cX11_leads 4 RX11 D aC ad sg A H0) {o : Mem} (HR : ∀ (M1 : Mem) (H : Heap) (locs : List Loc) (pc : Nat) (ls : Array Slot), o = M1 → WS D aC ad A H0 M1 H locs → decode cX11_leads pc = .ok (.return_, 1) → W p l e rm_X11_leads s m args below meth c H locs 0 0 Q (F0 m pc ls [])) (M : Mem) (hf : f_X11_leads_j32 M = some o) {H : Heap} {locs : List Loc} {ls : Array Slot} (hl : lv_has ls 4 [(0, .ref (ad 80))]) (w : WS D aC ad A H0 M H locs) : W p l e rm_X11_leads s m args below meth c H locs 0 0 Q (F0 m 32 ls []) := by
  have hx := X.1.1
  have hb := X.1.2.1
  unfold f_X11_leads_j32 at hf
  refine g_iconst X dX11_leads_32 ?_
  refine g_istn (v := 0) (lv' := [(2, .int (i2 0)), (0, .ref (ad 80))]) X rfl dX11_leads_33 rfl hl (by decide) rfl (fun ls hl => ?_)
  obtain ⟨q, hq, h1⟩ := obn_some hf
  exact l_X11_leads_34 X  (out := q) (fun y2 M1 H locs ls eq hy2 hl w => b_X11_leads_j99 X  HR M1 (by subst eq; exact h1) (lv_sub hl [] rfl) w)  FU 0 M hq (inL rfl) (lv_sub hl [1, 0] rfl) w
set_option maxRecDepth 100000 in
set_option maxHeartbeats 4000000 in
theorem b_X11_leads_0 (X : CX p s m args c cX11_leads 4 RX11 D aC ad sg A H0) {o : Mem} (HR : ∀ (M1 : Mem) (H : Heap) (locs : List Loc) (pc : Nat) (ls : Array Slot), o = M1 → WS D aC ad A H0 M1 H locs → decode cX11_leads pc = .ok (.return_, 1) → W p l e rm_X11_leads s m args below meth c H locs 0 0 Q (F0 m pc ls [])) (p1 : Int) (hp1 : inR p1) (M : Mem) (hf : f_X11_leads p1 M = some o) {H : Heap} {locs : List Loc} {ls : Array Slot} (hl : lv_has ls 4 [(0, .ref (ad 80)), (1, .int (i2 p1))]) (w : WS D aC ad A H0 M H locs) : W p l e rm_X11_leads s m args below meth c H locs 0 0 Q (F0 m 0 ls []) := by
  have hx := X.1.1
  have hb := X.1.2.1
  unfold f_X11_leads at hf
  refine g_iconst X dX11_leads_0 ?_
  refine g_istn (v := 0) (lv' := [(2, .int (i2 0)), (0, .ref (ad 80)), (1, .int (i2 p1))]) X rfl dX11_leads_1 rfl hl (by decide) rfl (fun ls hl => ?_)
  obtain ⟨q, hq, h1⟩ := obn_some hf
  exact l_X11_leads_2 X p1 hp1 (out := q) (fun y2 M1 H locs ls eq hy2 hl w => b_X11_leads_j32 X  HR M1 (by subst eq; exact h1) (lv_sub hl [0] rfl) w)  FU 0 M hq (inL rfl) (lv_sub hl [1, 2, 0] rfl) w
set_option maxRecDepth 100000 in
set_option maxHeartbeats 4000000 in
theorem k_X11_leads {l : Launch} {D : va_G} {aC : Nat → ClassId} {ad : Nat → Nat} {sg : SG} (hi : Inj ad) (p1 : Int) (hp1 : inR p1) {M : Mem} (hM : inM M) {M' : Mem} (hf : f_X11_leads p1 M = some M') : MetV l D aC ad sg yX11_leads cX11_leads 4 rm_X11_leads 0 0 [.ref (ad 80), .int (i2 p1)] M M' := by
  refine MetV.of (by decide +kernel) (nle rfl) hi hM (fun p e s m args below meth c Q H0 ls X hl w hret => ?_)
  exact b_X11_leads_0 X  (fun M1 H locs pc ls eo w dg => by cases eo; exact hret H locs pc ls w dg) p1 hp1 M hf hl w
set_option maxRecDepth 100000 in
set_option maxHeartbeats 4000000 in
theorem b_X11_ring_s17 (X : CX p s m args c cX11_ring 4 RX11 D aC ad sg A H0) (v1 : Int) (hv1 : inR v1) {o : (Int × Mem) ⊕ ((Int × Mem) ⊕ (Int × Mem))} (HC : ∀ (y2 : Int) (M1 : Mem) (H : Heap) (locs : List Loc) (ls : Array Slot), o = .inl (y2, M1) → inR y2 → lv_has ls 4 [(0, .ref (ad 80)), (1, .int (i2 v1)), (2, .int (i2 y2))] → WS D aC ad A H0 M1 H locs → W p l e rm_X11_ring s m args below meth c H locs 0 0 Q (F0 m 17 ls [])) (HE : ∀ (y2 : Int) (M1 : Mem) (H : Heap) (locs : List Loc) (ls : Array Slot), o = .inr (.inl (y2, M1)) → inR y2 → lv_has ls 4 [(0, .ref (ad 80)), (1, .int (i2 v1)), (2, .int (i2 y2))] → WS D aC ad A H0 M1 H locs → W p l e rm_X11_ring s m args below meth c H locs 0 0 Q (F0 m 60 ls [])) (HR : ∀ (r : Int) (M1 : Mem) (H : Heap) (locs : List Loc) (pc : Nat) (ls : Array Slot), o = .inr (.inr (r, M1)) → inR r → WS D aC ad A H0 M1 H locs → decode cX11_ring pc = .ok (.ireturn, 1) → W p l e rm_X11_ring s m args below meth c H locs 0 0 Q (F0 m pc ls [.int (i2 r)])) (v2 : Int) (hv2 : inR v2) (M : Mem) (hf : f_X11_ring_s17 v1 v2 M = some o) {H : Heap} {locs : List Loc} {ls : Array Slot} (hl : lv_has ls 4 [(0, .ref (ad 80)), (1, .int (i2 v1)), (2, .int (i2 v2))]) (w : WS D aC ad A H0 M H locs) : W p l e rm_X11_ring s m args below meth c H locs 0 0 Q (F0 m 17 ls []) := by
  have hx := X.1.1
  have hb := X.1.2.1
  unfold f_X11_ring_s17 at hf
  refine lv_iload_n hx hb dX11_ring_17 rfl (lv_at hl 2 rfl) ?_
  refine lv_iload_n hx hb dX11_ring_18 rfl (lv_at hl 1 rfl) ?_
  refine g_icmp_ge (tgt := 60) X hv2 hv1 dX11_ring_19 (by decide) (fun cd => ?_) (fun cd => ?_)
  · replace hf := ite_t cd hf
    exact HE v2 M _ _ _ (Option.some.inj hf).symm hv2 hl w
  · replace hf := ite_f cd hf
    refine lv_aload_n hx hb dX11_ring_22 rfl (lv_at hl 0 rfl) ?_
    refine lv_iload_n hx hb dX11_ring_23 rfl (lv_at hl 2 rfl) ?_
    obtain ⟨M_2, hc, hf⟩ := obn_some hf
    refine g_cvv (As := [.int (i2 v2)]) (rest := []) X w (k_X11_leads X.2.2.1 v2 hv2 w.2.2 hc) lk_X11_393 cl_11 KD_80 ⟨rfl, rfl⟩ ⟨nle rfl, nle rfl⟩ ⟨nle rfl, nle rfl⟩ hl.1 rfl (nle rfl) dX11_ring_24 (fun H locs w_M_2 => ?_)
    refine lv_aload_n hx hb dX11_ring_27 rfl (lv_at hl 0 rfl) ?_
    refine g_getr X w_M_2 fg_X11_112 KD_80 FR_80_49 dX11_ring_28 ?_
    refine lv_iload_n hx hb dX11_ring_31 rfl (lv_at hl 1 rfl) ?_
    obtain ⟨hg, hf⟩ := gd_some hf
    refine g_zald X w_M_2 KD_111 hv1 hg dX11_ring_32 ?_
    obtain ⟨v3, ev3, hf⟩ := lt_some hf
    have hv3 : inR v3 := inR_of ev3 (w_M_2.2.2 _ _)
    refine g_istn (v := v3) (lv' := [(3, .int (i2 v3)), (0, .ref (ad 80)), (1, .int (i2 v1)), (2, .int (i2 v2))]) X ev3 dX11_ring_33 rfl hl (by decide) rfl (fun ls hl => ?_)
    refine lv_aload_n hx hb dX11_ring_34 rfl (lv_at hl 1 rfl) ?_
    refine lv_iload_n hx hb dX11_ring_35 rfl (lv_at hl 2 rfl) ?_
    obtain ⟨M_3, hc, hf⟩ := obn_some hf
    refine g_cvv (As := [.int (i2 v1)]) (rest := []) X w_M_2 (k_X11_leads X.2.2.1 v1 hv1 w_M_2.2.2 hc) lk_X11_393 cl_11 KD_80 ⟨rfl, rfl⟩ ⟨nle rfl, nle rfl⟩ ⟨nle rfl, nle rfl⟩ hl.1 rfl (nle rfl) dX11_ring_36 (fun H locs w_M_3 => ?_)
    refine lv_iload_n hx hb dX11_ring_39 rfl (lv_at hl 0 rfl) ?_
    refine g_if_eq (tgt := 54) X hv3 dX11_ring_40 (by decide) (fun cd_2 => ?_) (fun cd_2 => ?_)
    · replace hf := ite_t cd_2 hf
      obtain ⟨v2_2, ev2_2, hf⟩ := lt_some hf
      have hv2_2 : inR v2_2 := inR_of ev2_2 (inR_wrap _)
      refine lv_iinc (v := i2 v2_2) (lv' := [(2, .int (i2 v2_2)), (3, .int (i2 v3)), (0, .ref (ad 80)), (1, .int (i2 v1))]) hx hb dX11_ring_54 hl (k := 3) rfl (by rw [ev2_2]; exact i2_add _ _) (by decide) rfl (fun ls hl => ?_)
      refine lv_goto (tgt := 17) hx hb dX11_ring_57 (by decide) ?_
      exact HC v2_2 M_3 _ _ _ (Option.some.inj hf).symm hv2_2 (lv_sub hl [2, 3, 0] rfl) w_M_3
    · replace hf := ite_f cd_2 hf
      refine lv_aload_n hx hb dX11_ring_43 rfl (lv_at hl 1 rfl) ?_
      refine g_getr X w_M_3 fg_X11_112 KD_80 FR_80_49 dX11_ring_44 ?_
      refine lv_iload_n hx hb dX11_ring_47 rfl (lv_at hl 3 rfl) ?_
      obtain ⟨hg_2, hf⟩ := gd_some hf
      refine g_zald X w_M_3 KD_111 hv2 hg_2 dX11_ring_48 ?_
      refine g_if_eq (tgt := 54) X (w_M_3.2.2 _ _) dX11_ring_49 (by decide) (fun cd_3 => ?_) (fun cd_3 => ?_)
      · replace hf := ite_t cd_3 hf
        obtain ⟨v2_3, ev2_3, hf⟩ := lt_some hf
        have hv2_3 : inR v2_3 := inR_of ev2_3 (inR_wrap _)
        refine lv_iinc (v := i2 v2_3) (lv' := [(2, .int (i2 v2_3)), (3, .int (i2 v3)), (0, .ref (ad 80)), (1, .int (i2 v1))]) hx hb dX11_ring_54 hl (k := 3) rfl (by rw [ev2_3]; exact i2_add _ _) (by decide) rfl (fun ls hl => ?_)
        refine lv_goto (tgt := 17) hx hb dX11_ring_57 (by decide) ?_
        exact HC v2_3 M_3 _ _ _ (Option.some.inj hf).symm hv2_3 (lv_sub hl [2, 3, 0] rfl) w_M_3
      · replace hf := ite_f cd_3 hf
        refine lv_iload_n hx hb dX11_ring_52 rfl (lv_at hl 3 rfl) ?_
        exact HR v2 M_3 _ _ _ _ (Option.some.inj hf).symm hv2 w_M_3 dX11_ring_53
set_option maxRecDepth 100000 in
set_option maxHeartbeats 4000000 in
theorem l_X11_ring_17 (X : CX p s m args c cX11_ring 4 RX11 D aC ad sg A H0) (v1 : Int) (hv1 : inR v1) {out : (Int × Mem) ⊕ (Int × Mem)} (HE : ∀ (y2 : Int) (M1 : Mem) (H : Heap) (locs : List Loc) (ls : Array Slot), out = .inl (y2, M1) → inR y2 → lv_has ls 4 [(0, .ref (ad 80)), (1, .int (i2 v1)), (2, .int (i2 y2))] → WS D aC ad A H0 M1 H locs → W p l e rm_X11_ring s m args below meth c H locs 0 0 Q (F0 m 60 ls [])) (HR : ∀ (r : Int) (M1 : Mem) (H : Heap) (locs : List Loc) (pc : Nat) (ls : Array Slot), out = .inr (r, M1) → inR r → WS D aC ad A H0 M1 H locs → decode cX11_ring pc = .ok (.ireturn, 1) → W p l e rm_X11_ring s m args below meth c H locs 0 0 Q (F0 m pc ls [.int (i2 r)])) : ∀ (n : Nat) (v2 : Int) (M : Mem), whl (fun s => f_X11_ring_s17 v1 s.1 s.2) n (v2, M) = some out → inR v2 → ∀ {H : Heap} {locs : List Loc} {ls : Array Slot}, lv_has ls 4 [(0, .ref (ad 80)), (1, .int (i2 v1)), (2, .int (i2 v2))] → WS D aC ad A H0 M H locs → W p l e rm_X11_ring s m args below meth c H locs 0 0 Q (F0 m 17 ls []) := by
  intro n
  induction n with
  | zero => intro v2 M hf; exact (whl_zero hf).elim
  | succ n ih =>
    intro v2 M hf hv2 H locs ls hl w
    obtain ⟨o, hf, hk1, hk2⟩ := whl_step hf
    exact b_X11_ring_s17 X v1 hv1 (fun y2 M1 H locs ls eo hy2 hl w => ih y2 M1 (hk1 _ eo) hy2 hl w) (fun y2 M1 H locs ls eo hy2 hl w => HE y2 M1 H locs ls (hk2 _ eo).symm hy2 hl w) (fun r M1 H locs pc ls eo hP w dg => HR r M1 H locs pc ls (hk2 _ eo).symm hP w dg) v2 hv2 M hf hl w
set_option maxRecDepth 100000 in
set_option maxHeartbeats 4000000 in
theorem b_X11_ring_j60 (X : CX p s m args c cX11_ring 4 RX11 D aC ad sg A H0) {o : Int × Mem} (HR : ∀ (r : Int) (M1 : Mem) (H : Heap) (locs : List Loc) (pc : Nat) (ls : Array Slot), o = (r, M1) → inR r → WS D aC ad A H0 M1 H locs → decode cX11_ring pc = .ok (.ireturn, 1) → W p l e rm_X11_ring s m args below meth c H locs 0 0 Q (F0 m pc ls [.int (i2 r)])) (v1 : Int) (hv1 : inR v1) (M : Mem) (hf : f_X11_ring_j60 v1 M = some o) {H : Heap} {locs : List Loc} {ls : Array Slot} (hl : lv_has ls 4 [(1, .int (i2 v1))]) (w : WS D aC ad A H0 M H locs) : W p l e rm_X11_ring s m args below meth c H locs 0 0 Q (F0 m 60 ls []) := by
  have hx := X.1.1
  have hb := X.1.2.1
  unfold f_X11_ring_j60 at hf
  refine lv_iload_n hx hb dX11_ring_60 rfl (lv_at hl 0 rfl) ?_
  exact HR v1 M _ _ _ _ (Option.some.inj hf).symm hv1 w dX11_ring_61
set_option maxRecDepth 100000 in
set_option maxHeartbeats 4000000 in
theorem b_X11_ring_0 (X : CX p s m args c cX11_ring 4 RX11 D aC ad sg A H0) {o : Int × Mem} (HR : ∀ (r : Int) (M1 : Mem) (H : Heap) (locs : List Loc) (pc : Nat) (ls : Array Slot), o = (r, M1) → inR r → WS D aC ad A H0 M1 H locs → decode cX11_ring pc = .ok (.ireturn, 1) → W p l e rm_X11_ring s m args below meth c H locs 0 0 Q (F0 m pc ls [.int (i2 r)])) (p1 : Int) (hp1 : inR p1) (M : Mem) (hf : f_X11_ring p1 M = some o) {H : Heap} {locs : List Loc} {ls : Array Slot} (hl : lv_has ls 4 [(0, .ref (ad 80)), (1, .int (i2 p1))]) (w : WS D aC ad A H0 M H locs) : W p l e rm_X11_ring s m args below meth c H locs 0 0 Q (F0 m 0 ls []) := by
  have hx := X.1.1
  have hb := X.1.2.1
  unfold f_X11_ring at hf
  refine lv_aload_n hx hb dX11_ring_0 rfl (lv_at hl 0 rfl) ?_
  refine g_iconst X dX11_ring_1 ?_
  obtain ⟨M_2, eM_2, hf⟩ := lt_some hf
  refine g_puti X w fp_X11_139 KD_80 FR_80_0 (inL rfl) dX11_ring_2 (fun H locs w_M_2 => ?_)
  rw [← eM_2] at w_M_2
  refine lv_aload_n hx hb dX11_ring_5 rfl (lv_at hl 0 rfl) ?_
  refine lv_iload_n hx hb dX11_ring_6 rfl (lv_at hl 1 rfl) ?_
  obtain ⟨r, hc, hf⟩ := obn_some hf
  refine g_cvi (As := [.int (i2 p1)]) (rest := []) X w_M_2 (k_X11_isChild X.2.2.1 p1 hp1 w_M_2.2.2 hc) lk_X11_149 cl_11 KD_80 ⟨rfl, rfl⟩ ⟨nle rfl, nle rfl⟩ ⟨nle rfl, nle rfl⟩ hl.1 rfl (nle rfl) dX11_ring_7 (fun hr H locs w_M_2 => ?_)
  refine g_if_ne (tgt := 15) X hr dX11_ring_10 (by decide) (fun cd => ?_) (fun cd => ?_)
  · replace hf := ite_f cd hf
    refine g_iconst X dX11_ring_15 ?_
    refine g_istn (v := 0) (lv' := [(2, .int (i2 0)), (0, .ref (ad 80)), (1, .int (i2 p1))]) X rfl dX11_ring_16 rfl hl (by decide) rfl (fun ls hl => ?_)
    obtain ⟨q, hq, h1, h2⟩ := lpr_some hf
    exact l_X11_ring_17 X p1 hp1 (out := q) (fun y2 M1 H locs ls eq hy2 hl w => b_X11_ring_j60 X  HR p1 hp1 M1 (h1 _ eq) (lv_sub hl [1] rfl) w) (fun r M1 H locs pc ls eq hP w dg => HR r M1 H locs pc ls (Option.some.inj (h2 _ eq)).symm hP w dg) FU 0 M_2 hq (inL rfl) (lv_sub hl [1, 2, 0] rfl) w_M_2
  · replace hf := ite_t cd hf
    refine g_iconst X dX11_ring_13 ?_
    exact HR (-1) M_2 _ _ _ _ (Option.some.inj hf).symm (inL rfl) w_M_2 dX11_ring_14
set_option maxRecDepth 100000 in
set_option maxHeartbeats 4000000 in
theorem k_X11_ring {l : Launch} {D : va_G} {aC : Nat → ClassId} {ad : Nat → Nat} {sg : SG} (hi : Inj ad) (p1 : Int) (hp1 : inR p1) {M : Mem} (hM : inM M) {r : Int} {M' : Mem} (hf : f_X11_ring p1 M = some (r, M')) : MetI l D aC ad sg yX11_ring cX11_ring 4 (some .int) rm_X11_ring 0 0 [.ref (ad 80), .int (i2 p1)] M r M' := by
  refine MetI.ofI (by decide +kernel) (nle rfl) hi hM (fun p e s m args below meth c Q H0 ls X hl w hret => ?_)
  exact b_X11_ring_0 X  (fun r1 M1 H locs pc ls eo hP w dg => by cases eo; exact hret H locs pc ls hP w dg) p1 hp1 M hf hl w
set_option maxRecDepth 100000 in
set_option maxHeartbeats 4000000 in
theorem b_X11_helper_0 (X : CX p s m args c cX11_helper 2 RX11 D aC ad sg A H0) {o : Int × Mem} (HR : ∀ (r : Int) (M1 : Mem) (H : Heap) (locs : List Loc) (pc : Nat) (ls : Array Slot), o = (r, M1) → inR r → WS D aC ad A H0 M1 H locs → decode cX11_helper pc = .ok (.ireturn, 1) → W p l e rm_X11_helper s m args below meth c H locs 0 0 Q (F0 m pc ls [.int (i2 r)])) (p1 : Int) (hp1 : inR p1) (M : Mem) (hf : f_X11_helper p1 M = some o) {H : Heap} {locs : List Loc} {ls : Array Slot} (hl : lv_has ls 2 [(0, .ref (ad 80)), (1, .int (i2 p1))]) (w : WS D aC ad A H0 M H locs) : W p l e rm_X11_helper s m args below meth c H locs 0 0 Q (F0 m 0 ls []) := by
  have hx := X.1.1
  have hb := X.1.2.1
  unfold f_X11_helper at hf
  refine lv_aload_n hx hb dX11_helper_0 rfl (lv_at hl 0 rfl) ?_
  refine g_iconst X dX11_helper_1 ?_
  obtain ⟨M_2, eM_2, hf⟩ := lt_some hf
  refine g_puti X w fp_X11_139 KD_80 FR_80_0 (inL rfl) dX11_helper_2 (fun H locs w_M_2 => ?_)
  rw [← eM_2] at w_M_2
  refine lv_iload_n hx hb dX11_helper_5 rfl (lv_at hl 1 rfl) ?_
  refine g_iconst X dX11_helper_6 ?_
  refine g_bipush X dX11_helper_7 (by decide) ?_
  obtain ⟨r, hc, hf⟩ := obn_some hf
  refine g_csi (As := [.int (i2 p1), .int (i2 1), .int (i2 60)]) (rest := []) X w_M_2 (k_X11_within X.2.2.1 p1 hp1 1 (inL rfl) 60 (inL rfl) w_M_2.2.2 hc) lk_X11_145 ⟨rfl, rfl⟩ ⟨nle rfl, nle rfl⟩ ⟨nle rfl, nle rfl⟩ hl.1 rfl (nle rfl) dX11_helper_9 (fun hr H locs w_M_2 => ?_)
  refine g_if_eq (tgt := 24) X hr dX11_helper_12 (by decide) (fun cd => ?_) (fun cd => ?_)
  · replace hf := ite_t cd hf
    refine g_iconst X dX11_helper_24 ?_
    exact HR (-1) M_2 _ _ _ _ (Option.some.inj hf).symm (inL rfl) w_M_2 dX11_helper_25
  · replace hf := ite_f cd hf
    refine lv_aload_n hx hb dX11_helper_15 rfl (lv_at hl 0 rfl) ?_
    refine g_geti X w_M_2 fg_X11_396 KD_80 FR_80_50 dX11_helper_16 ?_
    refine g_bipush X dX11_helper_19 (by decide) ?_
    refine g_icmp_ne (tgt := 26) X (w_M_2.2.2 _ _) (inL rfl) dX11_helper_21 (by decide) (fun cd_2 => ?_) (fun cd_2 => ?_)
    · replace hf := ite_f cd_2 hf
      refine lv_aload_n hx hb dX11_helper_26 rfl (lv_at hl 0 rfl) ?_
      refine g_getr X w_M_2 fg_X11_115 KD_80 FR_80_51 dX11_helper_27 ?_
      refine lv_aload_n hx hb dX11_helper_30 rfl (lv_at hl 0 rfl) ?_
      refine g_geti X w_M_2 fg_X11_396 KD_80 FR_80_50 dX11_helper_31 ?_
      refine lv_iload_n hx hb dX11_helper_34 rfl (lv_at hl 1 rfl) ?_
      obtain ⟨hg, hf⟩ := gd_some hf
      obtain ⟨M_3, eM_3, hf⟩ := lt_some hf
      refine g_iast X w_M_2 KD_112 (w_M_2.2.2 _ _) hg hp1 dX11_helper_35 (fun H locs w_M_3 => ?_)
      rw [← eM_3] at w_M_3
      refine lv_aload_n hx hb dX11_helper_36 rfl (lv_at hl 0 rfl) ?_
      refine lv_dup hx hb dX11_helper_37 rfl ?_
      refine g_geti X w_M_3 fg_X11_396 KD_80 FR_80_50 dX11_helper_38 ?_
      refine g_iconst X dX11_helper_41 ?_
      refine g_iadd X dX11_helper_42 ?_
      obtain ⟨M_4, eM_4, hf⟩ := lt_some hf
      refine g_puti X w_M_3 fp_X11_396 KD_80 FR_80_50 (inR_wrap _) dX11_helper_43 (fun H locs w_M_4 => ?_)
      rw [← eM_4] at w_M_4
      refine lv_aload_n hx hb dX11_helper_46 rfl (lv_at hl 0 rfl) ?_
      refine g_geti X w_M_4 fg_X11_396 KD_80 FR_80_50 dX11_helper_47 ?_
      refine g_iconst X dX11_helper_50 ?_
      refine g_isub X dX11_helper_51 ?_
      exact HR (wrap ((M_4 80 50) - 1)) M_4 _ _ _ _ (Option.some.inj hf).symm (inR_wrap _) w_M_4 dX11_helper_52
    · replace hf := ite_t cd_2 hf
      refine g_iconst X dX11_helper_24 ?_
      exact HR (-1) M_2 _ _ _ _ (Option.some.inj hf).symm (inL rfl) w_M_2 dX11_helper_25
set_option maxRecDepth 100000 in
set_option maxHeartbeats 4000000 in
theorem k_X11_helper {l : Launch} {D : va_G} {aC : Nat → ClassId} {ad : Nat → Nat} {sg : SG} (hi : Inj ad) (p1 : Int) (hp1 : inR p1) {M : Mem} (hM : inM M) {r : Int} {M' : Mem} (hf : f_X11_helper p1 M = some (r, M')) : MetI l D aC ad sg yX11_helper cX11_helper 2 (some .int) rm_X11_helper 0 0 [.ref (ad 80), .int (i2 p1)] M r M' := by
  refine MetI.ofI (by decide +kernel) (nle rfl) hi hM (fun p e s m args below meth c Q H0 ls X hl w hret => ?_)
  exact b_X11_helper_0 X  (fun r1 M1 H locs pc ls eo hP w dg => by cases eo; exact hret H locs pc ls hP w dg) p1 hp1 M hf hl w
set_option maxRecDepth 100000 in
set_option maxHeartbeats 4000000 in
theorem b_X11_lacking_s18 (X : CX p s m args c cX11_lacking 7 RX11 D aC ad sg A H0) (v1 : Int) (hv1 : inR v1) (v2 : Int) (hv2 : inR v2) (v3 : Int) (hv3 : inR v3) {M : Mem} {o : (Int × Int) ⊕ (Int × Int)} (HC : ∀ (y4 : Int) (y5 : Int) (H : Heap) (locs : List Loc) (ls : Array Slot), o = .inl (y4, y5) → inR y4 → inR y5 → lv_has ls 7 [(0, .ref (ad 80)), (1, .int (i2 v1)), (2, .int (i2 v2)), (3, .int (i2 v3)), (4, .int (i2 y4)), (5, .int (i2 y5))] → WS D aC ad A H0 M H locs → W p l e rm_X11_lacking s m args below meth c H locs 0 0 Q (F0 m 18 ls [])) (HE : ∀ (y4 : Int) (y5 : Int) (H : Heap) (locs : List Loc) (ls : Array Slot), o = .inr (y4, y5) → inR y4 → inR y5 → lv_has ls 7 [(0, .ref (ad 80)), (1, .int (i2 v1)), (2, .int (i2 v2)), (3, .int (i2 v3)), (4, .int (i2 y4)), (5, .int (i2 y5))] → WS D aC ad A H0 M H locs → W p l e rm_X11_lacking s m args below meth c H locs 0 0 Q (F0 m 65 ls [])) (v4 : Int) (hv4 : inR v4) (v5 : Int) (hv5 : inR v5) (hf : f_X11_lacking_s18 v1 v2 v3 M v4 v5 = some o) {H : Heap} {locs : List Loc} {ls : Array Slot} (hl : lv_has ls 7 [(0, .ref (ad 80)), (1, .int (i2 v1)), (2, .int (i2 v2)), (3, .int (i2 v3)), (4, .int (i2 v4)), (5, .int (i2 v5))]) (w : WS D aC ad A H0 M H locs) : W p l e rm_X11_lacking s m args below meth c H locs 0 0 Q (F0 m 18 ls []) := by
  have hx := X.1.1
  have hb := X.1.2.1
  unfold f_X11_lacking_s18 at hf
  refine lv_iload hx hb dX11_lacking_18 (lv_at hl 5 rfl) ?_
  refine lv_aload_n hx hb dX11_lacking_20 rfl (lv_at hl 0 rfl) ?_
  refine g_geti X w fg_X11_142 KD_80 FR_80_1 dX11_lacking_21 ?_
  refine g_icmp_ge (tgt := 65) X hv5 (w.2.2 _ _) dX11_lacking_24 (by decide) (fun cd => ?_) (fun cd => ?_)
  · replace hf := ite_t cd hf
    exact HE v4 v5 _ _ _ (Option.some.inj hf).symm hv4 hv5 hl w
  · replace hf := ite_f cd hf
    refine lv_iload hx hb dX11_lacking_27 (lv_at hl 4 rfl) ?_
    refine lv_aload_n hx hb dX11_lacking_29 rfl (lv_at hl 0 rfl) ?_
    refine g_getr X w fg_X11_106 KD_80 FR_80_47 dX11_lacking_30 ?_
    refine lv_iload hx hb dX11_lacking_33 (lv_at hl 5 rfl) ?_
    obtain ⟨hg, hf⟩ := gd_some hf
    refine g_iald X w KD_110 hv5 hg dX11_lacking_35 ?_
    refine lv_iload_n hx hb dX11_lacking_36 rfl (lv_at hl 3 rfl) ?_
    refine g_icmp_ne (tgt := 55) X (w.2.2 _ _) hv3 dX11_lacking_37 (by decide) (fun cd_2 => ?_) (fun cd_2 => ?_)
    · replace hf := ite_f cd_2 hf
      refine g_iconst X dX11_lacking_55 ?_
      refine g_iadd X dX11_lacking_56 ?_
      obtain ⟨v4_2, ev4_2, hf⟩ := lt_some hf
      have hv4_2 : inR v4_2 := inR_of ev4_2 (inR_wrap _)
      refine g_ist (v := v4_2) (lv' := [(4, .int (i2 v4_2)), (0, .ref (ad 80)), (1, .int (i2 v1)), (2, .int (i2 v2)), (3, .int (i2 v3)), (5, .int (i2 v5))]) X ev4_2 dX11_lacking_57 hl (by decide) rfl (fun ls hl => ?_)
      obtain ⟨v5_2, ev5_2, hf⟩ := lt_some hf
      have hv5_2 : inR v5_2 := inR_of ev5_2 (inR_wrap _)
      refine lv_iinc (v := i2 v5_2) (lv' := [(5, .int (i2 v5_2)), (4, .int (i2 v4_2)), (0, .ref (ad 80)), (1, .int (i2 v1)), (2, .int (i2 v2)), (3, .int (i2 v3))]) hx hb dX11_lacking_59 hl (k := 5) rfl (by rw [ev5_2]; exact i2_add _ _) (by decide) rfl (fun ls hl => ?_)
      refine lv_goto (tgt := 18) hx hb dX11_lacking_62 (by decide) ?_
      exact HC v4_2 v5_2 _ _ _ (Option.some.inj hf).symm hv4_2 hv5_2 (lv_sub hl [2, 3, 4, 5, 1, 0] rfl) w
    · replace hf := ite_t cd_2 hf
      refine lv_aload_n hx hb dX11_lacking_40 rfl (lv_at hl 0 rfl) ?_
      refine g_getr X w fg_X11_94 KD_80 FR_80_39 dX11_lacking_41 ?_
      refine g_bipush X dX11_lacking_44 (by decide) ?_
      refine lv_iload hx hb dX11_lacking_46 (lv_at hl 5 rfl) ?_
      refine g_imul X dX11_lacking_48 ?_
      refine g_iconst X dX11_lacking_49 ?_
      refine g_iadd X dX11_lacking_50 ?_
      obtain ⟨hg_2, hf⟩ := gd_some hf
      refine g_iald X w KD_106 (inR_wrap _) hg_2 dX11_lacking_51 ?_
      refine lv_goto (tgt := 56) hx hb dX11_lacking_52 (by decide) ?_
      refine g_iadd X dX11_lacking_56 ?_
      obtain ⟨v4_3, ev4_3, hf⟩ := lt_some hf
      have hv4_3 : inR v4_3 := inR_of ev4_3 (inR_wrap _)
      refine g_ist (v := v4_3) (lv' := [(4, .int (i2 v4_3)), (0, .ref (ad 80)), (1, .int (i2 v1)), (2, .int (i2 v2)), (3, .int (i2 v3)), (5, .int (i2 v5))]) X ev4_3 dX11_lacking_57 hl (by decide) rfl (fun ls hl => ?_)
      obtain ⟨v5_3, ev5_3, hf⟩ := lt_some hf
      have hv5_3 : inR v5_3 := inR_of ev5_3 (inR_wrap _)
      refine lv_iinc (v := i2 v5_3) (lv' := [(5, .int (i2 v5_3)), (4, .int (i2 v4_3)), (0, .ref (ad 80)), (1, .int (i2 v1)), (2, .int (i2 v2)), (3, .int (i2 v3))]) hx hb dX11_lacking_59 hl (k := 5) rfl (by rw [ev5_3]; exact i2_add _ _) (by decide) rfl (fun ls hl => ?_)
      refine lv_goto (tgt := 18) hx hb dX11_lacking_62 (by decide) ?_
      exact HC v4_3 v5_3 _ _ _ (Option.some.inj hf).symm hv4_3 hv5_3 (lv_sub hl [2, 3, 4, 5, 1, 0] rfl) w
set_option maxRecDepth 100000 in
set_option maxHeartbeats 4000000 in
theorem l_X11_lacking_18 (X : CX p s m args c cX11_lacking 7 RX11 D aC ad sg A H0) (v1 : Int) (hv1 : inR v1) (v2 : Int) (hv2 : inR v2) (v3 : Int) (hv3 : inR v3) {M : Mem} {out : Int × Int} (HE : ∀ (y4 : Int) (y5 : Int) (H : Heap) (locs : List Loc) (ls : Array Slot), out = (y4, y5) → inR y4 → inR y5 → lv_has ls 7 [(0, .ref (ad 80)), (1, .int (i2 v1)), (2, .int (i2 v2)), (3, .int (i2 v3)), (4, .int (i2 y4)), (5, .int (i2 y5))] → WS D aC ad A H0 M H locs → W p l e rm_X11_lacking s m args below meth c H locs 0 0 Q (F0 m 65 ls [])) : ∀ (n : Nat) (v4 : Int) (v5 : Int), whl (fun s => f_X11_lacking_s18 v1 v2 v3 M s.1 s.2) n (v4, v5) = some out → inR v4 → inR v5 → ∀ {H : Heap} {locs : List Loc} {ls : Array Slot}, lv_has ls 7 [(0, .ref (ad 80)), (1, .int (i2 v1)), (2, .int (i2 v2)), (3, .int (i2 v3)), (4, .int (i2 v4)), (5, .int (i2 v5))] → WS D aC ad A H0 M H locs → W p l e rm_X11_lacking s m args below meth c H locs 0 0 Q (F0 m 18 ls []) := by
  intro n
  induction n with
  | zero => intro v4 v5 hf; exact (whl_zero hf).elim
  | succ n ih =>
    intro v4 v5 hf hv4 hv5 H locs ls hl w
    obtain ⟨o, hf, hk1, hk2⟩ := whl_step hf
    exact b_X11_lacking_s18 X v1 hv1 v2 hv2 v3 hv3 (fun y4 y5 H locs ls eo hy4 hy5 hl w => ih y4 y5 (hk1 _ eo) hy4 hy5 hl w) (fun y4 y5 H locs ls eo hy4 hy5 hl w => HE y4 y5 H locs ls (hk2 _ eo).symm hy4 hy5 hl w) v4 hv4 v5 hv5 hf hl w
set_option maxRecDepth 100000 in
set_option maxHeartbeats 4000000 in
theorem b_X11_lacking_j105k76 (X : CX p s m args c cX11_lacking 7 RX11 D aC ad sg A H0) (v1 : Int) (hv1 : inR v1) (v2 : Int) (hv2 : inR v2) (v3 : Int) (hv3 : inR v3) {M : Mem} {o : (Int × Int × Int) ⊕ (Int × Int × Int)} (HC : ∀ (y4 : Int) (y5 : Int) (y6 : Int) (H : Heap) (locs : List Loc) (ls : Array Slot), o = .inl (y4, y5, y6) → inR y4 → inR y5 → inR y6 → lv_has ls 7 [(0, .ref (ad 80)), (1, .int (i2 v1)), (2, .int (i2 v2)), (3, .int (i2 v3)), (4, .int (i2 y4)), (5, .int (i2 y5)), (6, .int (i2 y6))] → WS D aC ad A H0 M H locs → W p l e rm_X11_lacking s m args below meth c H locs 0 0 Q (F0 m 76 ls [])) (HE : ∀ (y4 : Int) (y5 : Int) (y6 : Int) (H : Heap) (locs : List Loc) (ls : Array Slot), o = .inr (y4, y5, y6) → inR y4 → inR y5 → inR y6 → lv_has ls 7 [(0, .ref (ad 80)), (1, .int (i2 v1)), (2, .int (i2 v2)), (3, .int (i2 v3)), (4, .int (i2 y4)), (5, .int (i2 y5)), (6, .int (i2 y6))] → WS D aC ad A H0 M H locs → W p l e rm_X11_lacking s m args below meth c H locs 0 0 Q (F0 m 123 ls [])) (v4 : Int) (hv4 : inR v4) (v5 : Int) (hv5 : inR v5) (v6 : Int) (hv6 : inR v6) (s0 : Int) (hs0 : inR s0) (s1 : Int) (hs1 : inR s1) (hf : f_X11_lacking_j105k76 v1 v2 v3 v4 v5 v6 s0 s1 M = some o) {H : Heap} {locs : List Loc} {ls : Array Slot} (hl : lv_has ls 7 [(0, .ref (ad 80)), (1, .int (i2 v1)), (2, .int (i2 v2)), (3, .int (i2 v3)), (4, .int (i2 v4)), (5, .int (i2 v5)), (6, .int (i2 v6))]) (w : WS D aC ad A H0 M H locs) : W p l e rm_X11_lacking s m args below meth c H locs 0 0 Q (F0 m 105 ls [.int (i2 s0), .int (i2 s1)]) := by
  have hx := X.1.1
  have hb := X.1.2.1
  unfold f_X11_lacking_j105k76 at hf
  refine g_isub X dX11_lacking_105 ?_
  obtain ⟨v4_2, ev4_2, hf⟩ := lt_some hf
  have hv4_2 : inR v4_2 := inR_of ev4_2 (inR_wrap _)
  refine g_ist (v := v4_2) (lv' := [(4, .int (i2 v4_2)), (0, .ref (ad 80)), (1, .int (i2 v1)), (2, .int (i2 v2)), (3, .int (i2 v3)), (5, .int (i2 v5)), (6, .int (i2 v6))]) X ev4_2 dX11_lacking_106 hl (by decide) rfl (fun ls hl => ?_)
  refine lv_iload hx hb dX11_lacking_108 (lv_at hl 5 rfl) ?_
  refine lv_aload_n hx hb dX11_lacking_110 rfl (lv_at hl 1 rfl) ?_
  refine g_geti X w fg_X11_41 KD_80 FR_80_12 dX11_lacking_111 ?_
  obtain ⟨hg, hf⟩ := gd_some hf
  refine g_idiv X (w.2.2 _ _) hg dX11_lacking_114 ?_
  obtain ⟨v5_2, ev5_2, hf⟩ := lt_some hf
  have hv5_2 : inR v5_2 := inR_of ev5_2 (inR_toInt _)
  refine g_ist (v := v5_2) (lv' := [(5, .int (i2 v5_2)), (4, .int (i2 v4_2)), (0, .ref (ad 80)), (1, .int (i2 v1)), (2, .int (i2 v2)), (3, .int (i2 v3)), (6, .int (i2 v6))]) X ev5_2 dX11_lacking_115 hl (by decide) rfl (fun ls hl => ?_)
  obtain ⟨v6_2, ev6_2, hf⟩ := lt_some hf
  have hv6_2 : inR v6_2 := inR_of ev6_2 (inR_wrap _)
  refine lv_iinc (v := i2 v6_2) (lv' := [(6, .int (i2 v6_2)), (5, .int (i2 v5_2)), (4, .int (i2 v4_2)), (0, .ref (ad 80)), (1, .int (i2 v1)), (2, .int (i2 v2)), (3, .int (i2 v3))]) hx hb dX11_lacking_117 hl (k := 6) rfl (by rw [ev6_2]; exact i2_add _ _) (by decide) rfl (fun ls hl => ?_)
  refine lv_goto (tgt := 76) hx hb dX11_lacking_120 (by decide) ?_
  exact HC v4_2 v5_2 v6_2 _ _ _ (Option.some.inj hf).symm hv4_2 hv5_2 hv6_2 (lv_sub hl [3, 4, 5, 6, 2, 1, 0] rfl) w
set_option maxRecDepth 100000 in
set_option maxHeartbeats 4000000 in
theorem b_X11_lacking_s76 (X : CX p s m args c cX11_lacking 7 RX11 D aC ad sg A H0) (v1 : Int) (hv1 : inR v1) (v2 : Int) (hv2 : inR v2) (v3 : Int) (hv3 : inR v3) {M : Mem} {o : (Int × Int × Int) ⊕ (Int × Int × Int)} (HC : ∀ (y4 : Int) (y5 : Int) (y6 : Int) (H : Heap) (locs : List Loc) (ls : Array Slot), o = .inl (y4, y5, y6) → inR y4 → inR y5 → inR y6 → lv_has ls 7 [(0, .ref (ad 80)), (1, .int (i2 v1)), (2, .int (i2 v2)), (3, .int (i2 v3)), (4, .int (i2 y4)), (5, .int (i2 y5)), (6, .int (i2 y6))] → WS D aC ad A H0 M H locs → W p l e rm_X11_lacking s m args below meth c H locs 0 0 Q (F0 m 76 ls [])) (HE : ∀ (y4 : Int) (y5 : Int) (y6 : Int) (H : Heap) (locs : List Loc) (ls : Array Slot), o = .inr (y4, y5, y6) → inR y4 → inR y5 → inR y6 → lv_has ls 7 [(0, .ref (ad 80)), (1, .int (i2 v1)), (2, .int (i2 v2)), (3, .int (i2 v3)), (4, .int (i2 y4)), (5, .int (i2 y5)), (6, .int (i2 y6))] → WS D aC ad A H0 M H locs → W p l e rm_X11_lacking s m args below meth c H locs 0 0 Q (F0 m 123 ls [])) (v4 : Int) (hv4 : inR v4) (v5 : Int) (hv5 : inR v5) (v6 : Int) (hv6 : inR v6) (hf : f_X11_lacking_s76 v1 v2 v3 M v4 v5 v6 = some o) {H : Heap} {locs : List Loc} {ls : Array Slot} (hl : lv_has ls 7 [(0, .ref (ad 80)), (1, .int (i2 v1)), (2, .int (i2 v2)), (3, .int (i2 v3)), (4, .int (i2 v4)), (5, .int (i2 v5)), (6, .int (i2 v6))]) (w : WS D aC ad A H0 M H locs) : W p l e rm_X11_lacking s m args below meth c H locs 0 0 Q (F0 m 76 ls []) := by
  have hx := X.1.1
  have hb := X.1.2.1
  unfold f_X11_lacking_s76 at hf
  refine lv_iload hx hb dX11_lacking_76 (lv_at hl 6 rfl) ?_
  refine g_if_lt (tgt := 123) X hv6 dX11_lacking_78 (by decide) (fun cd => ?_) (fun cd => ?_)
  · replace hf := ite_t cd hf
    exact HE v4 v5 v6 _ _ _ (Option.some.inj hf).symm hv4 hv5 hv6 hl w
  · replace hf := ite_f cd hf
    refine lv_iload hx hb dX11_lacking_81 (lv_at hl 4 rfl) ?_
    refine lv_iload hx hb dX11_lacking_83 (lv_at hl 5 rfl) ?_
    refine lv_aload_n hx hb dX11_lacking_85 rfl (lv_at hl 0 rfl) ?_
    refine g_geti X w fg_X11_41 KD_80 FR_80_12 dX11_lacking_86 ?_
    obtain ⟨hg, hf⟩ := gd_some hf
    refine g_irem X (w.2.2 _ _) hg dX11_lacking_89 ?_
    refine lv_iload_n hx hb dX11_lacking_90 rfl (lv_at hl 3 rfl) ?_
    refine g_icmp_ne (tgt := 104) X (inR_toInt _) hv3 dX11_lacking_91 (by decide) (fun cd_2 => ?_) (fun cd_2 => ?_)
    · replace hf := ite_f cd_2 hf
      refine g_iconst X dX11_lacking_104 ?_
      exact b_X11_lacking_j105k76 X v1 hv1 v2 hv2 v3 hv3 HC HE v4 hv4 v5 hv5 v6 hv6 0 (inL rfl) v4 hv4 hf hl w
    · replace hf := ite_t cd_2 hf
      refine lv_aload_n hx hb dX11_lacking_94 rfl (lv_at hl 0 rfl) ?_
      refine g_getr X w fg_X11_115 KD_80 FR_80_51 dX11_lacking_95 ?_
      refine lv_iload hx hb dX11_lacking_98 (lv_at hl 6 rfl) ?_
      obtain ⟨hg_2, hf⟩ := gd_some hf
      refine g_iald X w KD_112 hv6 hg_2 dX11_lacking_100 ?_
      refine lv_goto (tgt := 105) hx hb dX11_lacking_101 (by decide) ?_
      exact b_X11_lacking_j105k76 X v1 hv1 v2 hv2 v3 hv3 HC HE v4 hv4 v5 hv5 v6 hv6 (M 112 v6.toNat) (w.2.2 _ _) v4 hv4 hf hl w
set_option maxRecDepth 100000 in
set_option maxHeartbeats 4000000 in
theorem l_X11_lacking_76 (X : CX p s m args c cX11_lacking 7 RX11 D aC ad sg A H0) (v1 : Int) (hv1 : inR v1) (v2 : Int) (hv2 : inR v2) (v3 : Int) (hv3 : inR v3) {M : Mem} {out : Int × Int × Int} (HE : ∀ (y4 : Int) (y5 : Int) (y6 : Int) (H : Heap) (locs : List Loc) (ls : Array Slot), out = (y4, y5, y6) → inR y4 → inR y5 → inR y6 → lv_has ls 7 [(0, .ref (ad 80)), (1, .int (i2 v1)), (2, .int (i2 v2)), (3, .int (i2 v3)), (4, .int (i2 y4)), (5, .int (i2 y5)), (6, .int (i2 y6))] → WS D aC ad A H0 M H locs → W p l e rm_X11_lacking s m args below meth c H locs 0 0 Q (F0 m 123 ls [])) : ∀ (n : Nat) (v4 : Int) (v5 : Int) (v6 : Int), whl (fun s => f_X11_lacking_s76 v1 v2 v3 M s.1 s.2.1 s.2.2) n (v4, v5, v6) = some out → inR v4 → inR v5 → inR v6 → ∀ {H : Heap} {locs : List Loc} {ls : Array Slot}, lv_has ls 7 [(0, .ref (ad 80)), (1, .int (i2 v1)), (2, .int (i2 v2)), (3, .int (i2 v3)), (4, .int (i2 v4)), (5, .int (i2 v5)), (6, .int (i2 v6))] → WS D aC ad A H0 M H locs → W p l e rm_X11_lacking s m args below meth c H locs 0 0 Q (F0 m 76 ls []) := by
  intro n
  induction n with
  | zero => intro v4 v5 v6 hf; exact (whl_zero hf).elim
  | succ n ih =>
    intro v4 v5 v6 hf hv4 hv5 hv6 H locs ls hl w
    obtain ⟨o, hf, hk1, hk2⟩ := whl_step hf
    exact b_X11_lacking_s76 X v1 hv1 v2 hv2 v3 hv3 (fun y4 y5 y6 H locs ls eo hy4 hy5 hy6 hl w => ih y4 y5 y6 (hk1 _ eo) hy4 hy5 hy6 hl w) (fun y4 y5 y6 H locs ls eo hy4 hy5 hy6 hl w => HE y4 y5 y6 H locs ls (hk2 _ eo).symm hy4 hy5 hy6 hl w) v4 hv4 v5 hv5 v6 hv6 hf hl w
set_option maxRecDepth 100000 in
set_option maxHeartbeats 4000000 in
theorem b_X11_lacking_j123k4 (X : CX p s m args c cX11_lacking 7 RX11 D aC ad sg A H0) (v1 : Int) (hv1 : inR v1) {M : Mem} {o : (Int × Int) ⊕ (Int × Int)} (HC : ∀ (y2 : Int) (y3 : Int) (H : Heap) (locs : List Loc) (ls : Array Slot), o = .inl (y2, y3) → inR y2 → inR y3 → lv_has ls 7 [(0, .ref (ad 80)), (1, .int (i2 v1)), (2, .int (i2 y2)), (3, .int (i2 y3))] → WS D aC ad A H0 M H locs → W p l e rm_X11_lacking s m args below meth c H locs 0 0 Q (F0 m 4 ls [])) (HE : ∀ (y2 : Int) (y3 : Int) (H : Heap) (locs : List Loc) (ls : Array Slot), o = .inr (y2, y3) → inR y2 → inR y3 → lv_has ls 7 [(0, .ref (ad 80)), (1, .int (i2 v1)), (2, .int (i2 y2)), (3, .int (i2 y3))] → WS D aC ad A H0 M H locs → W p l e rm_X11_lacking s m args below meth c H locs 0 0 Q (F0 m 143 ls [])) (v2 : Int) (hv2 : inR v2) (v3 : Int) (hv3 : inR v3) (v4 : Int) (hv4 : inR v4) (hf : f_X11_lacking_j123k4 v1 v2 v3 v4 M = some o) {H : Heap} {locs : List Loc} {ls : Array Slot} (hl : lv_has ls 7 [(0, .ref (ad 80)), (1, .int (i2 v1)), (2, .int (i2 v2)), (3, .int (i2 v3)), (4, .int (i2 v4))]) (w : WS D aC ad A H0 M H locs) : W p l e rm_X11_lacking s m args below meth c H locs 0 0 Q (F0 m 123 ls []) := by
  have hx := X.1.1
  have hb := X.1.2.1
  unfold f_X11_lacking_j123k4 at hf
  refine lv_iload_n hx hb dX11_lacking_123 rfl (lv_at hl 2 rfl) ?_
  refine lv_iload hx hb dX11_lacking_124 (lv_at hl 4 rfl) ?_
  refine g_if_le (tgt := 134) X hv4 dX11_lacking_126 (by decide) (fun cd => ?_) (fun cd => ?_)
  · replace hf := ite_t cd hf
    refine g_iconst X dX11_lacking_134 ?_
    refine g_iadd X dX11_lacking_135 ?_
    obtain ⟨v2_2, ev2_2, hf⟩ := lt_some hf
    have hv2_2 : inR v2_2 := inR_of ev2_2 (inR_wrap _)
    refine g_istn (v := v2_2) (lv' := [(2, .int (i2 v2_2)), (0, .ref (ad 80)), (1, .int (i2 v1)), (3, .int (i2 v3)), (4, .int (i2 v4))]) X ev2_2 dX11_lacking_136 rfl hl (by decide) rfl (fun ls hl => ?_)
    obtain ⟨v3_2, ev3_2, hf⟩ := lt_some hf
    have hv3_2 : inR v3_2 := inR_of ev3_2 (inR_wrap _)
    refine lv_iinc (v := i2 v3_2) (lv' := [(3, .int (i2 v3_2)), (2, .int (i2 v2_2)), (0, .ref (ad 80)), (1, .int (i2 v1)), (4, .int (i2 v4))]) hx hb dX11_lacking_137 hl (k := 3) rfl (by rw [ev3_2]; exact i2_add _ _) (by decide) rfl (fun ls hl => ?_)
    refine lv_goto (tgt := 4) hx hb dX11_lacking_140 (by decide) ?_
    exact HC v2_2 v3_2 _ _ _ (Option.some.inj hf).symm hv2_2 hv3_2 (lv_sub hl [2, 3, 1, 0] rfl) w
  · replace hf := ite_f cd hf
    refine lv_iload hx hb dX11_lacking_129 (lv_at hl 4 rfl) ?_
    refine lv_goto (tgt := 135) hx hb dX11_lacking_131 (by decide) ?_
    refine g_iadd X dX11_lacking_135 ?_
    obtain ⟨v2_3, ev2_3, hf⟩ := lt_some hf
    have hv2_3 : inR v2_3 := inR_of ev2_3 (inR_wrap _)
    refine g_istn (v := v2_3) (lv' := [(2, .int (i2 v2_3)), (0, .ref (ad 80)), (1, .int (i2 v1)), (3, .int (i2 v3)), (4, .int (i2 v4))]) X ev2_3 dX11_lacking_136 rfl hl (by decide) rfl (fun ls hl => ?_)
    obtain ⟨v3_3, ev3_3, hf⟩ := lt_some hf
    have hv3_3 : inR v3_3 := inR_of ev3_3 (inR_wrap _)
    refine lv_iinc (v := i2 v3_3) (lv' := [(3, .int (i2 v3_3)), (2, .int (i2 v2_3)), (0, .ref (ad 80)), (1, .int (i2 v1)), (4, .int (i2 v4))]) hx hb dX11_lacking_137 hl (k := 3) rfl (by rw [ev3_3]; exact i2_add _ _) (by decide) rfl (fun ls hl => ?_)
    refine lv_goto (tgt := 4) hx hb dX11_lacking_140 (by decide) ?_
    exact HC v2_3 v3_3 _ _ _ (Option.some.inj hf).symm hv2_3 hv3_3 (lv_sub hl [2, 3, 1, 0] rfl) w
set_option maxRecDepth 100000 in
set_option maxHeartbeats 4000000 in
theorem b_X11_lacking_j65k4 (X : CX p s m args c cX11_lacking 7 RX11 D aC ad sg A H0) (v1 : Int) (hv1 : inR v1) {M : Mem} {o : (Int × Int) ⊕ (Int × Int)} (HC : ∀ (y2 : Int) (y3 : Int) (H : Heap) (locs : List Loc) (ls : Array Slot), o = .inl (y2, y3) → inR y2 → inR y3 → lv_has ls 7 [(0, .ref (ad 80)), (1, .int (i2 v1)), (2, .int (i2 y2)), (3, .int (i2 y3))] → WS D aC ad A H0 M H locs → W p l e rm_X11_lacking s m args below meth c H locs 0 0 Q (F0 m 4 ls [])) (HE : ∀ (y2 : Int) (y3 : Int) (H : Heap) (locs : List Loc) (ls : Array Slot), o = .inr (y2, y3) → inR y2 → inR y3 → lv_has ls 7 [(0, .ref (ad 80)), (1, .int (i2 v1)), (2, .int (i2 y2)), (3, .int (i2 y3))] → WS D aC ad A H0 M H locs → W p l e rm_X11_lacking s m args below meth c H locs 0 0 Q (F0 m 143 ls [])) (v2 : Int) (hv2 : inR v2) (v3 : Int) (hv3 : inR v3) (v4 : Int) (hv4 : inR v4) (hf : f_X11_lacking_j65k4 v1 v2 v3 v4 M = some o) {H : Heap} {locs : List Loc} {ls : Array Slot} (hl : lv_has ls 7 [(0, .ref (ad 80)), (1, .int (i2 v1)), (2, .int (i2 v2)), (3, .int (i2 v3)), (4, .int (i2 v4))]) (w : WS D aC ad A H0 M H locs) : W p l e rm_X11_lacking s m args below meth c H locs 0 0 Q (F0 m 65 ls []) := by
  have hx := X.1.1
  have hb := X.1.2.1
  unfold f_X11_lacking_j65k4 at hf
  refine lv_iload_n hx hb dX11_lacking_65 rfl (lv_at hl 1 rfl) ?_
  refine g_ist (v := v1) (lv' := [(5, .int (i2 v1)), (0, .ref (ad 80)), (1, .int (i2 v1)), (2, .int (i2 v2)), (3, .int (i2 v3)), (4, .int (i2 v4))]) X rfl dX11_lacking_66 hl (by decide) rfl (fun ls hl => ?_)
  refine lv_aload_n hx hb dX11_lacking_68 rfl (lv_at hl 1 rfl) ?_
  refine g_geti X w fg_X11_396 KD_80 FR_80_50 dX11_lacking_69 ?_
  refine g_iconst X dX11_lacking_72 ?_
  refine g_isub X dX11_lacking_73 ?_
  obtain ⟨v6, ev6, hf⟩ := lt_some hf
  have hv6 : inR v6 := inR_of ev6 (inR_wrap _)
  refine g_ist (v := v6) (lv' := [(6, .int (i2 v6)), (5, .int (i2 v1)), (0, .ref (ad 80)), (1, .int (i2 v1)), (2, .int (i2 v2)), (3, .int (i2 v3)), (4, .int (i2 v4))]) X ev6 dX11_lacking_74 hl (by decide) rfl (fun ls hl => ?_)
  obtain ⟨q, hq, h1⟩ := obn_some hf
  exact l_X11_lacking_76 X v1 hv1 v2 hv2 v3 hv3 (out := q) (fun y4 y5 y6 H locs ls eq hy4 hy5 hy6 hl w => b_X11_lacking_j123k4 X v1 hv1 HC HE v2 hv2 v3 hv3 y4 hy4 (by subst eq; exact h1) (lv_sub hl [0, 1, 2, 3, 4] rfl) w)  FU v4 v1 v6 hq hv4 hv1 hv6 (lv_sub hl [2, 3, 4, 5, 6, 1, 0] rfl) w
set_option maxRecDepth 100000 in
set_option maxHeartbeats 4000000 in
theorem b_X11_lacking_s4 (X : CX p s m args c cX11_lacking 7 RX11 D aC ad sg A H0) (v1 : Int) (hv1 : inR v1) {M : Mem} {o : (Int × Int) ⊕ (Int × Int)} (HC : ∀ (y2 : Int) (y3 : Int) (H : Heap) (locs : List Loc) (ls : Array Slot), o = .inl (y2, y3) → inR y2 → inR y3 → lv_has ls 7 [(0, .ref (ad 80)), (1, .int (i2 v1)), (2, .int (i2 y2)), (3, .int (i2 y3))] → WS D aC ad A H0 M H locs → W p l e rm_X11_lacking s m args below meth c H locs 0 0 Q (F0 m 4 ls [])) (HE : ∀ (y2 : Int) (y3 : Int) (H : Heap) (locs : List Loc) (ls : Array Slot), o = .inr (y2, y3) → inR y2 → inR y3 → lv_has ls 7 [(0, .ref (ad 80)), (1, .int (i2 v1)), (2, .int (i2 y2)), (3, .int (i2 y3))] → WS D aC ad A H0 M H locs → W p l e rm_X11_lacking s m args below meth c H locs 0 0 Q (F0 m 143 ls [])) (v2 : Int) (hv2 : inR v2) (v3 : Int) (hv3 : inR v3) (hf : f_X11_lacking_s4 v1 M v2 v3 = some o) {H : Heap} {locs : List Loc} {ls : Array Slot} (hl : lv_has ls 7 [(0, .ref (ad 80)), (1, .int (i2 v1)), (2, .int (i2 v2)), (3, .int (i2 v3))]) (w : WS D aC ad A H0 M H locs) : W p l e rm_X11_lacking s m args below meth c H locs 0 0 Q (F0 m 4 ls []) := by
  have hx := X.1.1
  have hb := X.1.2.1
  unfold f_X11_lacking_s4 at hf
  refine lv_iload_n hx hb dX11_lacking_4 rfl (lv_at hl 3 rfl) ?_
  refine lv_aload_n hx hb dX11_lacking_5 rfl (lv_at hl 0 rfl) ?_
  refine g_geti X w fg_X11_41 KD_80 FR_80_12 dX11_lacking_6 ?_
  refine g_icmp_ge (tgt := 143) X hv3 (w.2.2 _ _) dX11_lacking_9 (by decide) (fun cd => ?_) (fun cd => ?_)
  · replace hf := ite_t cd hf
    exact HE v2 v3 _ _ _ (Option.some.inj hf).symm hv2 hv3 hl w
  · replace hf := ite_f cd hf
    refine g_iconst X dX11_lacking_12 ?_
    refine g_ist (v := 0) (lv' := [(4, .int (i2 0)), (0, .ref (ad 80)), (1, .int (i2 v1)), (2, .int (i2 v2)), (3, .int (i2 v3))]) X rfl dX11_lacking_13 hl (by decide) rfl (fun ls hl => ?_)
    refine g_iconst X dX11_lacking_15 ?_
    refine g_ist (v := 0) (lv' := [(5, .int (i2 0)), (4, .int (i2 0)), (0, .ref (ad 80)), (1, .int (i2 v1)), (2, .int (i2 v2)), (3, .int (i2 v3))]) X rfl dX11_lacking_16 hl (by decide) rfl (fun ls hl => ?_)
    obtain ⟨q, hq, h1⟩ := obn_some hf
    exact l_X11_lacking_18 X v1 hv1 v2 hv2 v3 hv3 (out := q) (fun y4 y5 H locs ls eq hy4 hy5 hl w => b_X11_lacking_j65k4 X v1 hv1 HC HE v2 hv2 v3 hv3 y4 hy4 (by subst eq; exact h1) (lv_sub hl [0, 1, 2, 3, 4] rfl) w)  FU 0 0 hq (inL rfl) (inL rfl) (lv_sub hl [2, 3, 4, 5, 1, 0] rfl) w
set_option maxRecDepth 100000 in
set_option maxHeartbeats 4000000 in
theorem l_X11_lacking_4 (X : CX p s m args c cX11_lacking 7 RX11 D aC ad sg A H0) (v1 : Int) (hv1 : inR v1) {M : Mem} {out : Int × Int} (HE : ∀ (y2 : Int) (y3 : Int) (H : Heap) (locs : List Loc) (ls : Array Slot), out = (y2, y3) → inR y2 → inR y3 → lv_has ls 7 [(0, .ref (ad 80)), (1, .int (i2 v1)), (2, .int (i2 y2)), (3, .int (i2 y3))] → WS D aC ad A H0 M H locs → W p l e rm_X11_lacking s m args below meth c H locs 0 0 Q (F0 m 143 ls [])) : ∀ (n : Nat) (v2 : Int) (v3 : Int), whl (fun s => f_X11_lacking_s4 v1 M s.1 s.2) n (v2, v3) = some out → inR v2 → inR v3 → ∀ {H : Heap} {locs : List Loc} {ls : Array Slot}, lv_has ls 7 [(0, .ref (ad 80)), (1, .int (i2 v1)), (2, .int (i2 v2)), (3, .int (i2 v3))] → WS D aC ad A H0 M H locs → W p l e rm_X11_lacking s m args below meth c H locs 0 0 Q (F0 m 4 ls []) := by
  intro n
  induction n with
  | zero => intro v2 v3 hf; exact (whl_zero hf).elim
  | succ n ih =>
    intro v2 v3 hf hv2 hv3 H locs ls hl w
    obtain ⟨o, hf, hk1, hk2⟩ := whl_step hf
    exact b_X11_lacking_s4 X v1 hv1 (fun y2 y3 H locs ls eo hy2 hy3 hl w => ih y2 y3 (hk1 _ eo) hy2 hy3 hl w) (fun y2 y3 H locs ls eo hy2 hy3 hl w => HE y2 y3 H locs ls (hk2 _ eo).symm hy2 hy3 hl w) v2 hv2 v3 hv3 hf hl w
set_option maxRecDepth 100000 in
set_option maxHeartbeats 4000000 in
theorem b_X11_lacking_j143 (X : CX p s m args c cX11_lacking 7 RX11 D aC ad sg A H0) {M : Mem} {o : Int} (HR : ∀ (r : Int) (H : Heap) (locs : List Loc) (pc : Nat) (ls : Array Slot), o = r → inR r → WS D aC ad A H0 M H locs → decode cX11_lacking pc = .ok (.ireturn, 1) → W p l e rm_X11_lacking s m args below meth c H locs 0 0 Q (F0 m pc ls [.int (i2 r)])) (v2 : Int) (hv2 : inR v2) (hf : f_X11_lacking_j143 v2 M = some o) {H : Heap} {locs : List Loc} {ls : Array Slot} (hl : lv_has ls 7 [(2, .int (i2 v2))]) (w : WS D aC ad A H0 M H locs) : W p l e rm_X11_lacking s m args below meth c H locs 0 0 Q (F0 m 143 ls []) := by
  have hx := X.1.1
  have hb := X.1.2.1
  unfold f_X11_lacking_j143 at hf
  refine lv_iload_n hx hb dX11_lacking_143 rfl (lv_at hl 0 rfl) ?_
  exact HR v2 _ _ _ _ (Option.some.inj hf).symm hv2 w dX11_lacking_144
set_option maxRecDepth 100000 in
set_option maxHeartbeats 4000000 in
theorem b_X11_lacking_0 (X : CX p s m args c cX11_lacking 7 RX11 D aC ad sg A H0) {M : Mem} {o : Int} (HR : ∀ (r : Int) (H : Heap) (locs : List Loc) (pc : Nat) (ls : Array Slot), o = r → inR r → WS D aC ad A H0 M H locs → decode cX11_lacking pc = .ok (.ireturn, 1) → W p l e rm_X11_lacking s m args below meth c H locs 0 0 Q (F0 m pc ls [.int (i2 r)])) (p1 : Int) (hp1 : inR p1) (hf : f_X11_lacking p1 M = some o) {H : Heap} {locs : List Loc} {ls : Array Slot} (hl : lv_has ls 7 [(0, .ref (ad 80)), (1, .int (i2 p1))]) (w : WS D aC ad A H0 M H locs) : W p l e rm_X11_lacking s m args below meth c H locs 0 0 Q (F0 m 0 ls []) := by
  have hx := X.1.1
  have hb := X.1.2.1
  unfold f_X11_lacking at hf
  refine g_iconst X dX11_lacking_0 ?_
  refine g_istn (v := 0) (lv' := [(2, .int (i2 0)), (0, .ref (ad 80)), (1, .int (i2 p1))]) X rfl dX11_lacking_1 rfl hl (by decide) rfl (fun ls hl => ?_)
  refine g_iconst X dX11_lacking_2 ?_
  refine g_istn (v := 0) (lv' := [(3, .int (i2 0)), (2, .int (i2 0)), (0, .ref (ad 80)), (1, .int (i2 p1))]) X rfl dX11_lacking_3 rfl hl (by decide) rfl (fun ls hl => ?_)
  obtain ⟨q, hq, h1⟩ := obn_some hf
  exact l_X11_lacking_4 X p1 hp1 (out := q) (fun y2 y3 H locs ls eq hy2 hy3 hl w => b_X11_lacking_j143 X  HR y2 hy2 (by subst eq; exact h1) (lv_sub hl [2] rfl) w)  FU 0 0 hq (inL rfl) (inL rfl) (lv_sub hl [2, 3, 1, 0] rfl) w
set_option maxRecDepth 100000 in
set_option maxHeartbeats 4000000 in
theorem k_X11_lacking {l : Launch} {D : va_G} {aC : Nat → ClassId} {ad : Nat → Nat} {sg : SG} (hi : Inj ad) (p1 : Int) (hp1 : inR p1) {M : Mem} (hM : inM M) {r : Int} (hf : f_X11_lacking p1 M = some r) : MetI l D aC ad sg yX11_lacking cX11_lacking 7 (some .int) rm_X11_lacking 0 0 [.ref (ad 80), .int (i2 p1)] M r M := by
  refine MetI.ofI (by decide +kernel) (nle rfl) hi hM (fun p e s m args below meth c Q H0 ls X hl w hret => ?_)
  exact b_X11_lacking_0 X  (fun r1 H locs pc ls eo hP w dg => by cases eo; exact hret H locs pc ls hP w dg) p1 hp1 hf hl w
set_option maxRecDepth 100000 in
set_option maxHeartbeats 4000000 in
theorem b_X11_help_s40 (X : CX p s m args c cX11_help 7 RX11 D aC ad sg A H0) (v1 : Int) (hv1 : inR v1) {M : Mem} {o : (Int × Int) ⊕ (Int × Int)} (HC : ∀ (y2 : Int) (y3 : Int) (H : Heap) (locs : List Loc) (ls : Array Slot), o = .inl (y2, y3) → inR y2 → inR y3 → lv_has ls 7 [(0, .ref (ad 80)), (1, .int (i2 v1)), (2, .int (i2 y2)), (3, .int (i2 y3))] → WS D aC ad A H0 M H locs → W p l e rm_X11_help s m args below meth c H locs 0 0 Q (F0 m 40 ls [])) (HE : ∀ (y2 : Int) (y3 : Int) (H : Heap) (locs : List Loc) (ls : Array Slot), o = .inr (y2, y3) → inR y2 → inR y3 → lv_has ls 7 [(0, .ref (ad 80)), (1, .int (i2 v1)), (2, .int (i2 y2)), (3, .int (i2 y3))] → WS D aC ad A H0 M H locs → W p l e rm_X11_help s m args below meth c H locs 0 0 Q (F0 m 61 ls [])) (v2 : Int) (hv2 : inR v2) (v3 : Int) (hv3 : inR v3) (hf : f_X11_help_s40 v1 M v2 v3 = some o) {H : Heap} {locs : List Loc} {ls : Array Slot} (hl : lv_has ls 7 [(0, .ref (ad 80)), (1, .int (i2 v1)), (2, .int (i2 v2)), (3, .int (i2 v3))]) (w : WS D aC ad A H0 M H locs) : W p l e rm_X11_help s m args below meth c H locs 0 0 Q (F0 m 40 ls []) := by
  have hx := X.1.1
  have hb := X.1.2.1
  unfold f_X11_help_s40 at hf
  refine lv_iload_n hx hb dX11_help_40 rfl (lv_at hl 3 rfl) ?_
  refine lv_aload_n hx hb dX11_help_41 rfl (lv_at hl 0 rfl) ?_
  refine g_geti X w fg_X11_396 KD_80 FR_80_50 dX11_help_42 ?_
  refine g_icmp_ge (tgt := 61) X hv3 (w.2.2 _ _) dX11_help_45 (by decide) (fun cd => ?_) (fun cd => ?_)
  · replace hf := ite_t cd hf
    exact HE v2 v3 _ _ _ (Option.some.inj hf).symm hv2 hv3 hl w
  · replace hf := ite_f cd hf
    refine lv_iload_n hx hb dX11_help_48 rfl (lv_at hl 2 rfl) ?_
    refine lv_aload_n hx hb dX11_help_49 rfl (lv_at hl 0 rfl) ?_
    refine g_geti X w fg_X11_41 KD_80 FR_80_12 dX11_help_50 ?_
    refine g_imul X dX11_help_53 ?_
    obtain ⟨v2_2, ev2_2, hf⟩ := lt_some hf
    have hv2_2 : inR v2_2 := inR_of ev2_2 (inR_wrap _)
    refine g_istn (v := v2_2) (lv' := [(2, .int (i2 v2_2)), (0, .ref (ad 80)), (1, .int (i2 v1)), (3, .int (i2 v3))]) X ev2_2 dX11_help_54 rfl hl (by decide) rfl (fun ls hl => ?_)
    obtain ⟨v3_2, ev3_2, hf⟩ := lt_some hf
    have hv3_2 : inR v3_2 := inR_of ev3_2 (inR_wrap _)
    refine lv_iinc (v := i2 v3_2) (lv' := [(3, .int (i2 v3_2)), (2, .int (i2 v2_2)), (0, .ref (ad 80)), (1, .int (i2 v1))]) hx hb dX11_help_55 hl (k := 3) rfl (by rw [ev3_2]; exact i2_add _ _) (by decide) rfl (fun ls hl => ?_)
    refine lv_goto (tgt := 40) hx hb dX11_help_58 (by decide) ?_
    exact HC v2_2 v3_2 _ _ _ (Option.some.inj hf).symm hv2_2 hv3_2 (lv_sub hl [2, 3, 1, 0] rfl) w
set_option maxRecDepth 100000 in
set_option maxHeartbeats 4000000 in
theorem l_X11_help_40 (X : CX p s m args c cX11_help 7 RX11 D aC ad sg A H0) (v1 : Int) (hv1 : inR v1) {M : Mem} {out : Int × Int} (HE : ∀ (y2 : Int) (y3 : Int) (H : Heap) (locs : List Loc) (ls : Array Slot), out = (y2, y3) → inR y2 → inR y3 → lv_has ls 7 [(0, .ref (ad 80)), (1, .int (i2 v1)), (2, .int (i2 y2)), (3, .int (i2 y3))] → WS D aC ad A H0 M H locs → W p l e rm_X11_help s m args below meth c H locs 0 0 Q (F0 m 61 ls [])) : ∀ (n : Nat) (v2 : Int) (v3 : Int), whl (fun s => f_X11_help_s40 v1 M s.1 s.2) n (v2, v3) = some out → inR v2 → inR v3 → ∀ {H : Heap} {locs : List Loc} {ls : Array Slot}, lv_has ls 7 [(0, .ref (ad 80)), (1, .int (i2 v1)), (2, .int (i2 v2)), (3, .int (i2 v3))] → WS D aC ad A H0 M H locs → W p l e rm_X11_help s m args below meth c H locs 0 0 Q (F0 m 40 ls []) := by
  intro n
  induction n with
  | zero => intro v2 v3 hf; exact (whl_zero hf).elim
  | succ n ih =>
    intro v2 v3 hf hv2 hv3 H locs ls hl w
    obtain ⟨o, hf, hk1, hk2⟩ := whl_step hf
    exact b_X11_help_s40 X v1 hv1 (fun y2 y3 H locs ls eo hy2 hy3 hl w => ih y2 y3 (hk1 _ eo) hy2 hy3 hl w) (fun y2 y3 H locs ls eo hy2 hy3 hl w => HE y2 y3 H locs ls (hk2 _ eo).symm hy2 hy3 hl w) v2 hv2 v3 hv3 hf hl w
set_option maxRecDepth 100000 in
set_option maxHeartbeats 4000000 in
theorem b_X11_help_s71 (X : CX p s m args c cX11_help 7 RX11 D aC ad sg A H0) (v1 : Int) (hv1 : inR v1) (v2 : Int) (hv2 : inR v2) {M : Mem} {o : (Int × Int × Int) ⊕ (Int × Int × Int)} (HC : ∀ (y3 : Int) (y4 : Int) (y5 : Int) (H : Heap) (locs : List Loc) (ls : Array Slot), o = .inl (y3, y4, y5) → inR y3 → inR y4 → inR y5 → lv_has ls 7 [(0, .ref (ad 80)), (1, .int (i2 v1)), (2, .int (i2 v2)), (3, .int (i2 y3)), (4, .int (i2 y4)), (5, .int (i2 y5))] → WS D aC ad A H0 M H locs → W p l e rm_X11_help s m args below meth c H locs 0 0 Q (F0 m 71 ls [])) (HE : ∀ (y3 : Int) (y4 : Int) (y5 : Int) (H : Heap) (locs : List Loc) (ls : Array Slot), o = .inr (y3, y4, y5) → inR y3 → inR y4 → inR y5 → lv_has ls 7 [(0, .ref (ad 80)), (1, .int (i2 v1)), (2, .int (i2 v2)), (3, .int (i2 y3)), (4, .int (i2 y4)), (5, .int (i2 y5))] → WS D aC ad A H0 M H locs → W p l e rm_X11_help s m args below meth c H locs 0 0 Q (F0 m 107 ls [])) (v3 : Int) (hv3 : inR v3) (v4 : Int) (hv4 : inR v4) (v5 : Int) (hv5 : inR v5) (hf : f_X11_help_s71 v1 v2 M v3 v4 v5 = some o) {H : Heap} {locs : List Loc} {ls : Array Slot} (hl : lv_has ls 7 [(0, .ref (ad 80)), (1, .int (i2 v1)), (2, .int (i2 v2)), (3, .int (i2 v3)), (4, .int (i2 v4)), (5, .int (i2 v5))]) (w : WS D aC ad A H0 M H locs) : W p l e rm_X11_help s m args below meth c H locs 0 0 Q (F0 m 71 ls []) := by
  have hx := X.1.1
  have hb := X.1.2.1
  unfold f_X11_help_s71 at hf
  refine lv_iload hx hb dX11_help_71 (lv_at hl 5 rfl) ?_
  refine lv_iload_n hx hb dX11_help_73 rfl (lv_at hl 2 rfl) ?_
  refine g_icmp_ge (tgt := 107) X hv5 hv2 dX11_help_74 (by decide) (fun cd => ?_) (fun cd => ?_)
  · replace hf := ite_t cd hf
    exact HE v3 v4 v5 _ _ _ (Option.some.inj hf).symm hv3 hv4 hv5 hl w
  · replace hf := ite_f cd hf
    refine lv_aload_n hx hb dX11_help_77 rfl (lv_at hl 0 rfl) ?_
    refine lv_iload hx hb dX11_help_78 (lv_at hl 5 rfl) ?_
    obtain ⟨r, hc, hf⟩ := obn_some hf
    refine g_cvi (As := [.int (i2 v5)]) (rest := []) X w (k_X11_lacking X.2.2.1 v5 hv5 w.2.2 hc) lk_X11_399 cl_11 KD_80 ⟨rfl, rfl⟩ ⟨nle rfl, nle rfl⟩ ⟨nle rfl, nle rfl⟩ hl.1 rfl (nle rfl) dX11_help_80 (fun hr H locs w => ?_)
    refine g_ist (v := r) (lv' := [(6, .int (i2 r)), (0, .ref (ad 80)), (1, .int (i2 v1)), (2, .int (i2 v2)), (3, .int (i2 v3)), (4, .int (i2 v4)), (5, .int (i2 v5))]) X rfl dX11_help_83 hl (by decide) rfl (fun ls hl => ?_)
    refine lv_iload hx hb dX11_help_85 (lv_at hl 0 rfl) ?_
    refine lv_iload_n hx hb dX11_help_87 rfl (lv_at hl 4 rfl) ?_
    refine g_icmp_lt (tgt := 94) X hr hv3 dX11_help_88 (by decide) (fun cd_2 => ?_) (fun cd_2 => ?_)
    · replace hf := ite_t cd_2 hf
      refine lv_iload hx hb dX11_help_94 (lv_at hl 0 rfl) ?_
      refine g_istn (v := r) (lv' := [(3, .int (i2 r)), (6, .int (i2 r)), (0, .ref (ad 80)), (1, .int (i2 v1)), (2, .int (i2 v2)), (4, .int (i2 v4)), (5, .int (i2 v5))]) X rfl dX11_help_96 rfl hl (by decide) rfl (fun ls hl => ?_)
      refine lv_iload hx hb dX11_help_97 (lv_at hl 6 rfl) ?_
      refine g_ist (v := v5) (lv' := [(4, .int (i2 v5)), (3, .int (i2 r)), (6, .int (i2 r)), (0, .ref (ad 80)), (1, .int (i2 v1)), (2, .int (i2 v2)), (5, .int (i2 v5))]) X rfl dX11_help_99 hl (by decide) rfl (fun ls hl => ?_)
      obtain ⟨v5_2, ev5_2, hf⟩ := lt_some hf
      have hv5_2 : inR v5_2 := inR_of ev5_2 (inR_wrap _)
      refine lv_iinc (v := i2 v5_2) (lv' := [(5, .int (i2 v5_2)), (4, .int (i2 v5)), (3, .int (i2 r)), (6, .int (i2 r)), (0, .ref (ad 80)), (1, .int (i2 v1)), (2, .int (i2 v2))]) hx hb dX11_help_101 hl (k := 6) rfl (by rw [ev5_2]; exact i2_add _ _) (by decide) rfl (fun ls hl => ?_)
      refine lv_goto (tgt := 71) hx hb dX11_help_104 (by decide) ?_
      exact HC r v5 v5_2 _ _ _ (Option.some.inj hf).symm hr hv5 hv5_2 (lv_sub hl [4, 5, 6, 2, 1, 0] rfl) w
    · replace hf := ite_f cd_2 hf
      refine lv_goto (tgt := 101) hx hb dX11_help_91 (by decide) ?_
      obtain ⟨v5_3, ev5_3, hf⟩ := lt_some hf
      have hv5_3 : inR v5_3 := inR_of ev5_3 (inR_wrap _)
      refine lv_iinc (v := i2 v5_3) (lv' := [(5, .int (i2 v5_3)), (6, .int (i2 r)), (0, .ref (ad 80)), (1, .int (i2 v1)), (2, .int (i2 v2)), (3, .int (i2 v3)), (4, .int (i2 v4))]) hx hb dX11_help_101 hl (k := 6) rfl (by rw [ev5_3]; exact i2_add _ _) (by decide) rfl (fun ls hl => ?_)
      refine lv_goto (tgt := 71) hx hb dX11_help_104 (by decide) ?_
      exact HC v3 v4 v5_3 _ _ _ (Option.some.inj hf).symm hv3 hv4 hv5_3 (lv_sub hl [2, 3, 4, 5, 6, 0] rfl) w
set_option maxRecDepth 100000 in
set_option maxHeartbeats 4000000 in
theorem l_X11_help_71 (X : CX p s m args c cX11_help 7 RX11 D aC ad sg A H0) (v1 : Int) (hv1 : inR v1) (v2 : Int) (hv2 : inR v2) {M : Mem} {out : Int × Int × Int} (HE : ∀ (y3 : Int) (y4 : Int) (y5 : Int) (H : Heap) (locs : List Loc) (ls : Array Slot), out = (y3, y4, y5) → inR y3 → inR y4 → inR y5 → lv_has ls 7 [(0, .ref (ad 80)), (1, .int (i2 v1)), (2, .int (i2 v2)), (3, .int (i2 y3)), (4, .int (i2 y4)), (5, .int (i2 y5))] → WS D aC ad A H0 M H locs → W p l e rm_X11_help s m args below meth c H locs 0 0 Q (F0 m 107 ls [])) : ∀ (n : Nat) (v3 : Int) (v4 : Int) (v5 : Int), whl (fun s => f_X11_help_s71 v1 v2 M s.1 s.2.1 s.2.2) n (v3, v4, v5) = some out → inR v3 → inR v4 → inR v5 → ∀ {H : Heap} {locs : List Loc} {ls : Array Slot}, lv_has ls 7 [(0, .ref (ad 80)), (1, .int (i2 v1)), (2, .int (i2 v2)), (3, .int (i2 v3)), (4, .int (i2 v4)), (5, .int (i2 v5))] → WS D aC ad A H0 M H locs → W p l e rm_X11_help s m args below meth c H locs 0 0 Q (F0 m 71 ls []) := by
  intro n
  induction n with
  | zero => intro v3 v4 v5 hf; exact (whl_zero hf).elim
  | succ n ih =>
    intro v3 v4 v5 hf hv3 hv4 hv5 H locs ls hl w
    obtain ⟨o, hf, hk1, hk2⟩ := whl_step hf
    exact b_X11_help_s71 X v1 hv1 v2 hv2 (fun y3 y4 y5 H locs ls eo hy3 hy4 hy5 hl w => ih y3 y4 y5 (hk1 _ eo) hy3 hy4 hy5 hl w) (fun y3 y4 y5 H locs ls eo hy3 hy4 hy5 hl w => HE y3 y4 y5 H locs ls (hk2 _ eo).symm hy3 hy4 hy5 hl w) v3 hv3 v4 hv4 v5 hv5 hf hl w
set_option maxRecDepth 100000 in
set_option maxHeartbeats 4000000 in
theorem b_X11_help_s122 (X : CX p s m args c cX11_help 7 RX11 D aC ad sg A H0) (v1 : Int) (hv1 : inR v1) {o : (Int × Int × Mem) ⊕ (Int × Int × Mem)} (HC : ∀ (y4 : Int) (y5 : Int) (M1 : Mem) (H : Heap) (locs : List Loc) (ls : Array Slot), o = .inl (y4, y5, M1) → inR y4 → inR y5 → lv_has ls 7 [(0, .ref (ad 80)), (1, .int (i2 v1)), (4, .int (i2 y4)), (5, .int (i2 y5))] → WS D aC ad A H0 M1 H locs → W p l e rm_X11_help s m args below meth c H locs 0 0 Q (F0 m 122 ls [])) (HE : ∀ (y4 : Int) (y5 : Int) (M1 : Mem) (H : Heap) (locs : List Loc) (ls : Array Slot), o = .inr (y4, y5, M1) → inR y4 → inR y5 → lv_has ls 7 [(0, .ref (ad 80)), (1, .int (i2 v1)), (4, .int (i2 y4)), (5, .int (i2 y5))] → WS D aC ad A H0 M1 H locs → W p l e rm_X11_help s m args below meth c H locs 0 0 Q (F0 m 156 ls [])) (v4 : Int) (hv4 : inR v4) (v5 : Int) (hv5 : inR v5) (M : Mem) (hf : f_X11_help_s122 v1 v4 v5 M = some o) {H : Heap} {locs : List Loc} {ls : Array Slot} (hl : lv_has ls 7 [(0, .ref (ad 80)), (1, .int (i2 v1)), (4, .int (i2 v4)), (5, .int (i2 v5))]) (w : WS D aC ad A H0 M H locs) : W p l e rm_X11_help s m args below meth c H locs 0 0 Q (F0 m 122 ls []) := by
  have hx := X.1.1
  have hb := X.1.2.1
  unfold f_X11_help_s122 at hf
  refine lv_iload hx hb dX11_help_122 (lv_at hl 3 rfl) ?_
  refine g_if_lt (tgt := 156) X hv5 dX11_help_124 (by decide) (fun cd => ?_) (fun cd => ?_)
  · replace hf := ite_t cd hf
    exact HE v4 v5 M _ _ _ (Option.some.inj hf).symm hv4 hv5 hl w
  · replace hf := ite_f cd hf
    refine lv_aload_n hx hb dX11_help_127 rfl (lv_at hl 0 rfl) ?_
    refine g_getr X w fg_X11_118 KD_80 FR_80_52 dX11_help_128 ?_
    refine lv_iload hx hb dX11_help_131 (lv_at hl 3 rfl) ?_
    refine lv_iload hx hb dX11_help_133 (lv_at hl 2 rfl) ?_
    refine lv_aload_n hx hb dX11_help_135 rfl (lv_at hl 0 rfl) ?_
    refine g_geti X w fg_X11_41 KD_80 FR_80_12 dX11_help_136 ?_
    obtain ⟨hg, hf⟩ := gd_some hf
    refine g_irem X (w.2.2 _ _) hg dX11_help_139 ?_
    obtain ⟨hg_2, hf⟩ := gd_some hf
    obtain ⟨M_2, eM_2, hf⟩ := lt_some hf
    refine g_iast X w KD_113 hv5 hg_2 (inR_toInt _) dX11_help_140 (fun H locs w_M_2 => ?_)
    rw [← eM_2] at w_M_2
    refine lv_iload hx hb dX11_help_141 (lv_at hl 2 rfl) ?_
    refine lv_aload_n hx hb dX11_help_143 rfl (lv_at hl 0 rfl) ?_
    refine g_geti X w_M_2 fg_X11_41 KD_80 FR_80_12 dX11_help_144 ?_
    obtain ⟨hg_3, hf⟩ := gd_some hf
    refine g_idiv X (w_M_2.2.2 _ _) hg_3 dX11_help_147 ?_
    obtain ⟨v4_2, ev4_2, hf⟩ := lt_some hf
    have hv4_2 : inR v4_2 := inR_of ev4_2 (inR_toInt _)
    refine g_ist (v := v4_2) (lv' := [(4, .int (i2 v4_2)), (0, .ref (ad 80)), (1, .int (i2 v1)), (5, .int (i2 v5))]) X ev4_2 dX11_help_148 hl (by decide) rfl (fun ls hl => ?_)
    obtain ⟨v5_2, ev5_2, hf⟩ := lt_some hf
    have hv5_2 : inR v5_2 := inR_of ev5_2 (inR_wrap _)
    refine lv_iinc (v := i2 v5_2) (lv' := [(5, .int (i2 v5_2)), (4, .int (i2 v4_2)), (0, .ref (ad 80)), (1, .int (i2 v1))]) hx hb dX11_help_150 hl (k := 3) rfl (by rw [ev5_2]; exact i2_add _ _) (by decide) rfl (fun ls hl => ?_)
    refine lv_goto (tgt := 122) hx hb dX11_help_153 (by decide) ?_
    exact HC v4_2 v5_2 M_2 _ _ _ (Option.some.inj hf).symm hv4_2 hv5_2 (lv_sub hl [2, 3, 1, 0] rfl) w_M_2
set_option maxRecDepth 100000 in
set_option maxHeartbeats 4000000 in
theorem l_X11_help_122 (X : CX p s m args c cX11_help 7 RX11 D aC ad sg A H0) (v1 : Int) (hv1 : inR v1) {out : Int × Int × Mem} (HE : ∀ (y4 : Int) (y5 : Int) (M1 : Mem) (H : Heap) (locs : List Loc) (ls : Array Slot), out = (y4, y5, M1) → inR y4 → inR y5 → lv_has ls 7 [(0, .ref (ad 80)), (1, .int (i2 v1)), (4, .int (i2 y4)), (5, .int (i2 y5))] → WS D aC ad A H0 M1 H locs → W p l e rm_X11_help s m args below meth c H locs 0 0 Q (F0 m 156 ls [])) : ∀ (n : Nat) (v4 : Int) (v5 : Int) (M : Mem), whl (fun s => f_X11_help_s122 v1 s.1 s.2.1 s.2.2) n (v4, v5, M) = some out → inR v4 → inR v5 → ∀ {H : Heap} {locs : List Loc} {ls : Array Slot}, lv_has ls 7 [(0, .ref (ad 80)), (1, .int (i2 v1)), (4, .int (i2 v4)), (5, .int (i2 v5))] → WS D aC ad A H0 M H locs → W p l e rm_X11_help s m args below meth c H locs 0 0 Q (F0 m 122 ls []) := by
  intro n
  induction n with
  | zero => intro v4 v5 M hf; exact (whl_zero hf).elim
  | succ n ih =>
    intro v4 v5 M hf hv4 hv5 H locs ls hl w
    obtain ⟨o, hf, hk1, hk2⟩ := whl_step hf
    exact b_X11_help_s122 X v1 hv1 (fun y4 y5 M1 H locs ls eo hy4 hy5 hl w => ih y4 y5 M1 (hk1 _ eo) hy4 hy5 hl w) (fun y4 y5 M1 H locs ls eo hy4 hy5 hl w => HE y4 y5 M1 H locs ls (hk2 _ eo).symm hy4 hy5 hl w) v4 hv4 v5 hv5 M hf hl w
set_option maxRecDepth 100000 in
set_option maxHeartbeats 4000000 in
theorem b_X11_help_j156 (X : CX p s m args c cX11_help 7 RX11 D aC ad sg A H0) {o : Int × Mem} (HR : ∀ (r : Int) (M1 : Mem) (H : Heap) (locs : List Loc) (pc : Nat) (ls : Array Slot), o = (r, M1) → inR r → WS D aC ad A H0 M1 H locs → decode cX11_help pc = .ok (.ireturn, 1) → W p l e rm_X11_help s m args below meth c H locs 0 0 Q (F0 m pc ls [.int (i2 r)])) (v1 : Int) (hv1 : inR v1) (M : Mem) (hf : f_X11_help_j156 v1 M = some o) {H : Heap} {locs : List Loc} {ls : Array Slot} (hl : lv_has ls 7 [(0, .ref (ad 80)), (1, .int (i2 v1))]) (w : WS D aC ad A H0 M H locs) : W p l e rm_X11_help s m args below meth c H locs 0 0 Q (F0 m 156 ls []) := by
  have hx := X.1.1
  have hb := X.1.2.1
  unfold f_X11_help_j156 at hf
  refine lv_aload_n hx hb dX11_help_156 rfl (lv_at hl 0 rfl) ?_
  refine g_getr X w fg_X11_118 KD_80 FR_80_52 dX11_help_157 ?_
  refine lv_iload_n hx hb dX11_help_160 rfl (lv_at hl 1 rfl) ?_
  obtain ⟨hg, hf⟩ := gd_some hf
  refine g_iald X w KD_113 hv1 hg dX11_help_161 ?_
  exact HR (M 113 v1.toNat) M _ _ _ _ (Option.some.inj hf).symm (w.2.2 _ _) w dX11_help_162
set_option maxRecDepth 100000 in
set_option maxHeartbeats 4000000 in
theorem b_X11_help_j107 (X : CX p s m args c cX11_help 7 RX11 D aC ad sg A H0) {o : Int × Mem} (HR : ∀ (r : Int) (M1 : Mem) (H : Heap) (locs : List Loc) (pc : Nat) (ls : Array Slot), o = (r, M1) → inR r → WS D aC ad A H0 M1 H locs → decode cX11_help pc = .ok (.ireturn, 1) → W p l e rm_X11_help s m args below meth c H locs 0 0 Q (F0 m pc ls [.int (i2 r)])) (v1 : Int) (hv1 : inR v1) (v3 : Int) (hv3 : inR v3) (v4 : Int) (hv4 : inR v4) (M : Mem) (hf : f_X11_help_j107 v1 v3 v4 M = some o) {H : Heap} {locs : List Loc} {ls : Array Slot} (hl : lv_has ls 7 [(0, .ref (ad 80)), (1, .int (i2 v1)), (3, .int (i2 v3)), (4, .int (i2 v4))]) (w : WS D aC ad A H0 M H locs) : W p l e rm_X11_help s m args below meth c H locs 0 0 Q (F0 m 107 ls []) := by
  have hx := X.1.1
  have hb := X.1.2.1
  unfold f_X11_help_j107 at hf
  refine lv_iload_n hx hb dX11_help_107 rfl (lv_at hl 1 rfl) ?_
  refine g_iconst X dX11_help_108 ?_
  refine g_icmp_ne (tgt := 114) X hv1 (inL rfl) dX11_help_109 (by decide) (fun cd => ?_) (fun cd => ?_)
  · replace hf := ite_f cd hf
    refine lv_aload_n hx hb dX11_help_114 rfl (lv_at hl 0 rfl) ?_
    refine g_geti X w fg_X11_396 KD_80 FR_80_50 dX11_help_115 ?_
    refine g_iconst X dX11_help_118 ?_
    refine g_isub X dX11_help_119 ?_
    obtain ⟨v5, ev5, hf⟩ := lt_some hf
    have hv5 : inR v5 := inR_of ev5 (inR_wrap _)
    refine g_ist (v := v5) (lv' := [(5, .int (i2 v5)), (0, .ref (ad 80)), (1, .int (i2 v1)), (3, .int (i2 v3)), (4, .int (i2 v4))]) X ev5 dX11_help_120 hl (by decide) rfl (fun ls hl => ?_)
    obtain ⟨q, hq, h1⟩ := obn_some hf
    exact l_X11_help_122 X v1 hv1 (out := q) (fun y4 y5 M1 H locs ls eq hy4 hy5 hl w => b_X11_help_j156 X  HR v1 hv1 M1 (by subst eq; exact h1) (lv_sub hl [0, 1] rfl) w)  FU v4 v5 M hq hv4 hv5 (lv_sub hl [1, 2, 4, 0] rfl) w
  · replace hf := ite_t cd hf
    refine lv_iload_n hx hb dX11_help_112 rfl (lv_at hl 2 rfl) ?_
    exact HR v3 M _ _ _ _ (Option.some.inj hf).symm hv3 w dX11_help_113
set_option maxRecDepth 100000 in
set_option maxHeartbeats 4000000 in
theorem b_X11_help_j61 (X : CX p s m args c cX11_help 7 RX11 D aC ad sg A H0) {o : Int × Mem} (HR : ∀ (r : Int) (M1 : Mem) (H : Heap) (locs : List Loc) (pc : Nat) (ls : Array Slot), o = (r, M1) → inR r → WS D aC ad A H0 M1 H locs → decode cX11_help pc = .ok (.ireturn, 1) → W p l e rm_X11_help s m args below meth c H locs 0 0 Q (F0 m pc ls [.int (i2 r)])) (v1 : Int) (hv1 : inR v1) (v2 : Int) (hv2 : inR v2) (M : Mem) (hf : f_X11_help_j61 v1 v2 M = some o) {H : Heap} {locs : List Loc} {ls : Array Slot} (hl : lv_has ls 7 [(0, .ref (ad 80)), (1, .int (i2 v1)), (2, .int (i2 v2))]) (w : WS D aC ad A H0 M H locs) : W p l e rm_X11_help s m args below meth c H locs 0 0 Q (F0 m 61 ls []) := by
  have hx := X.1.1
  have hb := X.1.2.1
  unfold f_X11_help_j61 at hf
  refine g_ldcw X kc_X11_336 dX11_help_61 ?_
  refine g_istn (v := 1000000000) (lv' := [(3, .int (i2 1000000000)), (0, .ref (ad 80)), (1, .int (i2 v1)), (2, .int (i2 v2))]) X rfl dX11_help_64 rfl hl (by decide) rfl (fun ls hl => ?_)
  refine g_iconst X dX11_help_65 ?_
  refine g_ist (v := 0) (lv' := [(4, .int (i2 0)), (3, .int (i2 1000000000)), (0, .ref (ad 80)), (1, .int (i2 v1)), (2, .int (i2 v2))]) X rfl dX11_help_66 hl (by decide) rfl (fun ls hl => ?_)
  refine g_iconst X dX11_help_68 ?_
  refine g_ist (v := 0) (lv' := [(5, .int (i2 0)), (4, .int (i2 0)), (3, .int (i2 1000000000)), (0, .ref (ad 80)), (1, .int (i2 v1)), (2, .int (i2 v2))]) X rfl dX11_help_69 hl (by decide) rfl (fun ls hl => ?_)
  obtain ⟨q, hq, h1⟩ := obn_some hf
  exact l_X11_help_71 X v1 hv1 v2 hv2 (out := q) (fun y3 y4 y5 H locs ls eq hy3 hy4 hy5 hl w => b_X11_help_j107 X  HR v1 hv1 y3 hy3 y4 hy4 M (by subst eq; exact h1) (lv_sub hl [0, 1, 3, 4] rfl) w)  FU 1000000000 0 0 hq (inL rfl) (inL rfl) (inL rfl) (lv_sub hl [3, 4, 5, 2, 1, 0] rfl) w
set_option maxRecDepth 100000 in
set_option maxHeartbeats 4000000 in
theorem b_X11_help_0 (X : CX p s m args c cX11_help 7 RX11 D aC ad sg A H0) {o : Int × Mem} (HR : ∀ (r : Int) (M1 : Mem) (H : Heap) (locs : List Loc) (pc : Nat) (ls : Array Slot), o = (r, M1) → inR r → WS D aC ad A H0 M1 H locs → decode cX11_help pc = .ok (.ireturn, 1) → W p l e rm_X11_help s m args below meth c H locs 0 0 Q (F0 m pc ls [.int (i2 r)])) (p1 : Int) (hp1 : inR p1) (M : Mem) (hf : f_X11_help p1 M = some o) {H : Heap} {locs : List Loc} {ls : Array Slot} (hl : lv_has ls 7 [(0, .ref (ad 80)), (1, .int (i2 p1))]) (w : WS D aC ad A H0 M H locs) : W p l e rm_X11_help s m args below meth c H locs 0 0 Q (F0 m 0 ls []) := by
  have hx := X.1.1
  have hb := X.1.2.1
  unfold f_X11_help at hf
  refine lv_aload_n hx hb dX11_help_0 rfl (lv_at hl 0 rfl) ?_
  refine g_iconst X dX11_help_1 ?_
  obtain ⟨M_2, eM_2, hf⟩ := lt_some hf
  refine g_puti X w fp_X11_139 KD_80 FR_80_0 (inL rfl) dX11_help_2 (fun H locs w_M_2 => ?_)
  rw [← eM_2] at w_M_2
  refine lv_aload_n hx hb dX11_help_5 rfl (lv_at hl 0 rfl) ?_
  obtain ⟨r, hc, hf⟩ := obn_some hf
  refine g_cvi (As := []) (rest := []) X w_M_2 (k_X11_listed X.2.2.1  w_M_2.2.2 hc) lk_X11_384 cl_11 KD_80 ⟨rfl, rfl⟩ ⟨nle rfl, nle rfl⟩ ⟨nle rfl, nle rfl⟩ hl.1 rfl (nle rfl) dX11_help_6 (fun hr H locs w_M_2 => ?_)
  refine g_if_eq (tgt := 26) X hr dX11_help_9 (by decide) (fun cd => ?_) (fun cd => ?_)
  · replace hf := ite_t cd hf
    refine g_iconst X dX11_help_26 ?_
    exact HR (-1) M_2 _ _ _ _ (Option.some.inj hf).symm (inL rfl) w_M_2 dX11_help_27
  · replace hf := ite_f cd hf
    refine lv_iload_n hx hb dX11_help_12 rfl (lv_at hl 1 rfl) ?_
    refine g_iconst X dX11_help_13 ?_
    refine lv_aload_n hx hb dX11_help_14 rfl (lv_at hl 0 rfl) ?_
    refine g_geti X w_M_2 fg_X11_396 KD_80 FR_80_50 dX11_help_15 ?_
    refine g_iconst X dX11_help_18 ?_
    refine g_isub X dX11_help_19 ?_
    obtain ⟨r_2, hc, hf⟩ := obn_some hf
    refine g_csi (As := [.int (i2 p1), .int (i2 (-1)), .int (i2 (wrap ((M_2 80 50) - 1)))]) (rest := []) X w_M_2 (k_X11_within X.2.2.1 p1 hp1 (-1) (inL rfl) (wrap ((M_2 80 50) - 1)) (inR_wrap _) w_M_2.2.2 hc) lk_X11_145 ⟨rfl, rfl⟩ ⟨nle rfl, nle rfl⟩ ⟨nle rfl, nle rfl⟩ hl.1 rfl (nle rfl) dX11_help_20 (fun hr_2 H locs w_M_2 => ?_)
    refine g_if_ne (tgt := 28) X hr_2 dX11_help_23 (by decide) (fun cd_2 => ?_) (fun cd_2 => ?_)
    · replace hf := ite_f cd_2 hf
      refine lv_aload_n hx hb dX11_help_28 rfl (lv_at hl 0 rfl) ?_
      refine lv_aload_n hx hb dX11_help_29 rfl (lv_at hl 0 rfl) ?_
      refine g_geti X w_M_2 fg_X11_153 KD_80 FR_80_14 dX11_help_30 ?_
      obtain ⟨M_3, hc, hf⟩ := obn_some hf
      refine g_cvv (As := [.int (i2 (M_2 80 14))]) (rest := []) X w_M_2 (k_X11_learns X.2.2.1 (M_2 80 14) (w_M_2.2.2 _ _) w_M_2.2.2 hc) lk_X11_322 cl_11 KD_80 ⟨rfl, rfl⟩ ⟨nle rfl, nle rfl⟩ ⟨nle rfl, nle rfl⟩ hl.1 rfl (nle rfl) dX11_help_33 (fun H locs w_M_3 => ?_)
      refine g_iconst X dX11_help_36 ?_
      refine g_istn (v := 1) (lv' := [(2, .int (i2 1)), (0, .ref (ad 80)), (1, .int (i2 p1))]) X rfl dX11_help_37 rfl hl (by decide) rfl (fun ls hl => ?_)
      refine g_iconst X dX11_help_38 ?_
      refine g_istn (v := 0) (lv' := [(3, .int (i2 0)), (2, .int (i2 1)), (0, .ref (ad 80)), (1, .int (i2 p1))]) X rfl dX11_help_39 rfl hl (by decide) rfl (fun ls hl => ?_)
      obtain ⟨q, hq, h1⟩ := obn_some hf
      exact l_X11_help_40 X p1 hp1 (out := q) (fun y2 y3 H locs ls eq hy2 hy3 hl w => b_X11_help_j61 X  HR p1 hp1 y2 hy2 M_3 (by subst eq; exact h1) (lv_sub hl [0, 1, 2] rfl) w)  FU 1 0 hq (inL rfl) (inL rfl) (lv_sub hl [2, 3, 1, 0] rfl) w_M_3
    · replace hf := ite_t cd_2 hf
      refine g_iconst X dX11_help_26 ?_
      exact HR (-1) M_2 _ _ _ _ (Option.some.inj hf).symm (inL rfl) w_M_2 dX11_help_27
set_option maxRecDepth 100000 in
set_option maxHeartbeats 4000000 in
theorem k_X11_help {l : Launch} {D : va_G} {aC : Nat → ClassId} {ad : Nat → Nat} {sg : SG} (hi : Inj ad) (p1 : Int) (hp1 : inR p1) {M : Mem} (hM : inM M) {r : Int} {M' : Mem} (hf : f_X11_help p1 M = some (r, M')) : MetI l D aC ad sg yX11_help cX11_help 7 (some .int) rm_X11_help 0 0 [.ref (ad 80), .int (i2 p1)] M r M' := by
  refine MetI.ofI (by decide +kernel) (nle rfl) hi hM (fun p e s m args below meth c Q H0 ls X hl w hret => ?_)
  exact b_X11_help_0 X  (fun r1 M1 H locs pc ls eo hP w dg => by cases eo; exact hret H locs pc ls hP w dg) p1 hp1 M hf hl w
set_option maxRecDepth 100000 in
set_option maxHeartbeats 4000000 in
theorem b_X11_word_0 (X : CX p s m args c cX11_word 4 RX11 D aC ad sg A H0) {o : Int × Mem} (HR : ∀ (r : Int) (M1 : Mem) (H : Heap) (locs : List Loc) (pc : Nat) (ls : Array Slot), o = (r, M1) → isZ r → WS D aC ad A H0 M1 H locs → decode cX11_word pc = .ok (.ireturn, 1) → W p l e rm_X11_word s m args below meth c H locs 0 0 Q (F0 m pc ls [.int (i2 r)])) (p1 : Int) (hp1 : inR p1) (p2 : Int) (hp2 : inR p2) (p3 : Int) (hp3 : inR p3) (M : Mem) (hf : f_X11_word p1 p2 p3 M = some o) {H : Heap} {locs : List Loc} {ls : Array Slot} (hl : lv_has ls 4 [(0, .ref (ad 80)), (1, .int (i2 p1)), (2, .int (i2 p2)), (3, .int (i2 p3))]) (w : WS D aC ad A H0 M H locs) : W p l e rm_X11_word s m args below meth c H locs 0 0 Q (F0 m 0 ls []) := by
  have hx := X.1.1
  have hb := X.1.2.1
  unfold f_X11_word at hf
  refine lv_aload_n hx hb dX11_word_0 rfl (lv_at hl 0 rfl) ?_
  refine g_iconst X dX11_word_1 ?_
  obtain ⟨M_2, eM_2, hf⟩ := lt_some hf
  refine g_puti X w fp_X11_139 KD_80 FR_80_0 (inL rfl) dX11_word_2 (fun H locs w_M_2 => ?_)
  rw [← eM_2] at w_M_2
  refine lv_aload_n hx hb dX11_word_5 rfl (lv_at hl 0 rfl) ?_
  refine lv_iload_n hx hb dX11_word_6 rfl (lv_at hl 1 rfl) ?_
  obtain ⟨r, hc, hf⟩ := obn_some hf
  refine g_cvi (As := [.int (i2 p1)]) (rest := []) X w_M_2 (k_X11_isChild X.2.2.1 p1 hp1 w_M_2.2.2 hc) lk_X11_149 cl_11 KD_80 ⟨rfl, rfl⟩ ⟨nle rfl, nle rfl⟩ ⟨nle rfl, nle rfl⟩ hl.1 rfl (nle rfl) dX11_word_7 (fun hr H locs w_M_2 => ?_)
  refine g_if_eq (tgt := 42) X hr dX11_word_10 (by decide) (fun cd => ?_) (fun cd => ?_)
  · replace hf := ite_t cd hf
    refine g_iconst X dX11_word_42 ?_
    exact HR 0 M_2 _ _ _ _ (Option.some.inj hf).symm (Or.inl rfl) w_M_2 dX11_word_43
  · replace hf := ite_f cd hf
    refine lv_aload_n hx hb dX11_word_13 rfl (lv_at hl 0 rfl) ?_
    refine g_getr X w_M_2 fg_X11_106 KD_80 FR_80_47 dX11_word_14 ?_
    refine lv_iload_n hx hb dX11_word_17 rfl (lv_at hl 1 rfl) ?_
    obtain ⟨hg, hf⟩ := gd_some hf
    refine g_iald X w_M_2 KD_110 hp1 hg dX11_word_18 ?_
    refine g_iconst X dX11_word_19 ?_
    refine g_icmp_eq (tgt := 42) X (w_M_2.2.2 _ _) (inL rfl) dX11_word_20 (by decide) (fun cd_2 => ?_) (fun cd_2 => ?_)
    · replace hf := ite_t cd_2 hf
      refine g_iconst X dX11_word_42 ?_
      exact HR 0 M_2 _ _ _ _ (Option.some.inj hf).symm (Or.inl rfl) w_M_2 dX11_word_43
    · replace hf := ite_f cd_2 hf
      refine lv_iload_n hx hb dX11_word_23 rfl (lv_at hl 2 rfl) ?_
      refine g_iconst X dX11_word_24 ?_
      refine g_bipush X dX11_word_25 (by decide) ?_
      obtain ⟨r_2, hc, hf⟩ := obn_some hf
      refine g_csi (As := [.int (i2 p2), .int (i2 0), .int (i2 10)]) (rest := []) X w_M_2 (k_X11_within X.2.2.1 p2 hp2 0 (inL rfl) 10 (inL rfl) w_M_2.2.2 hc) lk_X11_145 ⟨rfl, rfl⟩ ⟨nle rfl, nle rfl⟩ ⟨nle rfl, nle rfl⟩ hl.1 rfl (nle rfl) dX11_word_27 (fun hr_2 H locs w_M_2 => ?_)
      refine g_if_eq (tgt := 42) X hr_2 dX11_word_30 (by decide) (fun cd_3 => ?_) (fun cd_3 => ?_)
      · replace hf := ite_t cd_3 hf
        refine g_iconst X dX11_word_42 ?_
        exact HR 0 M_2 _ _ _ _ (Option.some.inj hf).symm (Or.inl rfl) w_M_2 dX11_word_43
      · replace hf := ite_f cd_3 hf
        refine lv_iload_n hx hb dX11_word_33 rfl (lv_at hl 3 rfl) ?_
        refine g_iconst X dX11_word_34 ?_
        refine g_iconst X dX11_word_35 ?_
        obtain ⟨r_3, hc, hf⟩ := obn_some hf
        refine g_csi (As := [.int (i2 p3), .int (i2 0), .int (i2 5)]) (rest := []) X w_M_2 (k_X11_within X.2.2.1 p3 hp3 0 (inL rfl) 5 (inL rfl) w_M_2.2.2 hc) lk_X11_145 ⟨rfl, rfl⟩ ⟨nle rfl, nle rfl⟩ ⟨nle rfl, nle rfl⟩ hl.1 rfl (nle rfl) dX11_word_36 (fun hr_3 H locs w_M_2 => ?_)
        refine g_if_ne (tgt := 44) X hr_3 dX11_word_39 (by decide) (fun cd_4 => ?_) (fun cd_4 => ?_)
        · replace hf := ite_f cd_4 hf
          refine lv_aload_n hx hb dX11_word_44 rfl (lv_at hl 0 rfl) ?_
          refine g_getr X w_M_2 fg_X11_121 KD_80 FR_80_53 dX11_word_45 ?_
          refine lv_iload_n hx hb dX11_word_48 rfl (lv_at hl 1 rfl) ?_
          refine lv_iload_n hx hb dX11_word_49 rfl (lv_at hl 2 rfl) ?_
          obtain ⟨hg_2, hf⟩ := gd_some hf
          obtain ⟨M_3, eM_3, hf⟩ := lt_some hf
          refine g_iast X w_M_2 KD_114 hp1 hg_2 hp2 dX11_word_50 (fun H locs w_M_3 => ?_)
          rw [← eM_3] at w_M_3
          refine lv_aload_n hx hb dX11_word_51 rfl (lv_at hl 0 rfl) ?_
          refine g_getr X w_M_3 fg_X11_124 KD_80 FR_80_54 dX11_word_52 ?_
          refine lv_iload_n hx hb dX11_word_55 rfl (lv_at hl 1 rfl) ?_
          refine lv_iload_n hx hb dX11_word_56 rfl (lv_at hl 3 rfl) ?_
          obtain ⟨hg_3, hf⟩ := gd_some hf
          obtain ⟨M_4, eM_4, hf⟩ := lt_some hf
          refine g_iast X w_M_3 KD_115 hp1 hg_3 hp3 dX11_word_57 (fun H locs w_M_4 => ?_)
          rw [← eM_4] at w_M_4
          refine g_iconst X dX11_word_58 ?_
          exact HR 1 M_4 _ _ _ _ (Option.some.inj hf).symm (Or.inr rfl) w_M_4 dX11_word_59
        · replace hf := ite_t cd_4 hf
          refine g_iconst X dX11_word_42 ?_
          exact HR 0 M_2 _ _ _ _ (Option.some.inj hf).symm (Or.inl rfl) w_M_2 dX11_word_43
set_option maxRecDepth 100000 in
set_option maxHeartbeats 4000000 in
theorem k_X11_word {l : Launch} {D : va_G} {aC : Nat → ClassId} {ad : Nat → Nat} {sg : SG} (hi : Inj ad) (p1 : Int) (hp1 : inR p1) (p2 : Int) (hp2 : inR p2) (p3 : Int) (hp3 : inR p3) {M : Mem} (hM : inM M) {r : Int} {M' : Mem} (hf : f_X11_word p1 p2 p3 M = some (r, M')) : MetI l D aC ad sg yX11_word cX11_word 4 (some .boolean) rm_X11_word 0 0 [.ref (ad 80), .int (i2 p1), .int (i2 p2), .int (i2 p3)] M r M' := by
  refine MetI.ofZ (by decide +kernel) (nle rfl) hi hM (fun p e s m args below meth c Q H0 ls X hl w hret => ?_)
  exact b_X11_word_0 X  (fun r1 M1 H locs pc ls eo hP w dg => by cases eo; exact hret H locs pc ls hP w dg) p1 hp1 p2 hp2 p3 hp3 M hf hl w
set_option maxRecDepth 100000 in
set_option maxHeartbeats 4000000 in
theorem b_X11_isLow_0 (X : CX p s m args c cX11_isLow 2 RX11 D aC ad sg A H0) {M : Mem} {o : Int} (HR : ∀ (r : Int) (H : Heap) (locs : List Loc) (pc : Nat) (ls : Array Slot), o = r → isZ r → WS D aC ad A H0 M H locs → decode cX11_isLow pc = .ok (.ireturn, 1) → W p l e rm_X11_isLow s m args below meth c H locs 0 0 Q (F0 m pc ls [.int (i2 r)])) (p1 : Int) (hp1 : inR p1) (hf : f_X11_isLow p1 M = some o) {H : Heap} {locs : List Loc} {ls : Array Slot} (hl : lv_has ls 2 [(0, .ref (ad 80)), (1, .int (i2 p1))]) (w : WS D aC ad A H0 M H locs) : W p l e rm_X11_isLow s m args below meth c H locs 0 0 Q (F0 m 0 ls []) := by
  have hx := X.1.1
  have hb := X.1.2.1
  unfold f_X11_isLow at hf
  refine lv_aload_n hx hb dX11_isLow_0 rfl (lv_at hl 0 rfl) ?_
  refine g_getr X w fg_X11_121 KD_80 FR_80_53 dX11_isLow_1 ?_
  refine lv_iload_n hx hb dX11_isLow_4 rfl (lv_at hl 1 rfl) ?_
  obtain ⟨hg, hf⟩ := gd_some hf
  refine g_iald X w KD_114 hp1 hg dX11_isLow_5 ?_
  refine g_iconst X dX11_isLow_6 ?_
  refine g_icmp_eq (tgt := 31) X (w.2.2 _ _) (inL rfl) dX11_isLow_7 (by decide) (fun cd => ?_) (fun cd => ?_)
  · replace hf := ite_t cd hf
    refine g_iconst X dX11_isLow_31 ?_
    exact HR 0 _ _ _ _ (Option.some.inj hf).symm (Or.inl rfl) w dX11_isLow_32
  · replace hf := ite_f cd hf
    refine lv_aload_n hx hb dX11_isLow_10 rfl (lv_at hl 0 rfl) ?_
    refine g_getr X w fg_X11_121 KD_80 FR_80_53 dX11_isLow_11 ?_
    refine lv_iload_n hx hb dX11_isLow_14 rfl (lv_at hl 1 rfl) ?_
    obtain ⟨hg_2, hf⟩ := gd_some hf
    refine g_iald X w KD_114 hp1 hg_2 dX11_isLow_15 ?_
    refine lv_aload_n hx hb dX11_isLow_16 rfl (lv_at hl 0 rfl) ?_
    refine g_getr X w fg_X11_124 KD_80 FR_80_54 dX11_isLow_17 ?_
    refine lv_iload_n hx hb dX11_isLow_20 rfl (lv_at hl 1 rfl) ?_
    obtain ⟨hg_3, hf⟩ := gd_some hf
    refine g_iald X w KD_115 hp1 hg_3 dX11_isLow_21 ?_
    refine g_iadd X dX11_isLow_22 ?_
    refine g_iconst X dX11_isLow_23 ?_
    refine g_icmp_ge (tgt := 31) X (inR_wrap _) (inL rfl) dX11_isLow_24 (by decide) (fun cd_2 => ?_) (fun cd_2 => ?_)
    · replace hf := ite_t cd_2 hf
      refine g_iconst X dX11_isLow_31 ?_
      exact HR 0 _ _ _ _ (Option.some.inj hf).symm (Or.inl rfl) w dX11_isLow_32
    · replace hf := ite_f cd_2 hf
      refine g_iconst X dX11_isLow_27 ?_
      refine lv_goto (tgt := 32) hx hb dX11_isLow_28 (by decide) ?_
      exact HR 1 _ _ _ _ (Option.some.inj hf).symm (Or.inr rfl) w dX11_isLow_32
set_option maxRecDepth 100000 in
set_option maxHeartbeats 4000000 in
theorem k_X11_isLow {l : Launch} {D : va_G} {aC : Nat → ClassId} {ad : Nat → Nat} {sg : SG} (hi : Inj ad) (p1 : Int) (hp1 : inR p1) {M : Mem} (hM : inM M) {r : Int} (hf : f_X11_isLow p1 M = some r) : MetI l D aC ad sg yX11_isLow cX11_isLow 2 (some .boolean) rm_X11_isLow 0 0 [.ref (ad 80), .int (i2 p1)] M r M := by
  refine MetI.ofZ (by decide +kernel) (nle rfl) hi hM (fun p e s m args below meth c Q H0 ls X hl w hret => ?_)
  exact b_X11_isLow_0 X  (fun r1 H locs pc ls eo hP w dg => by cases eo; exact hret H locs pc ls hP w dg) p1 hp1 hf hl w
set_option maxRecDepth 100000 in
set_option maxHeartbeats 4000000 in
theorem b_X11_close_j107k32 (X : CX p s m args c cX11_close 5 RX11 D aC ad sg A H0) (v1 : Int) (hv1 : inR v1) (v2 : Int) (hv2 : inR v2) {o : (Int × Mem) ⊕ (Int × Mem)} (HC : ∀ (y3 : Int) (M1 : Mem) (H : Heap) (locs : List Loc) (ls : Array Slot), o = .inl (y3, M1) → inR y3 → lv_has ls 5 [(0, .ref (ad 80)), (1, .int (i2 v1)), (2, .int (i2 v2)), (3, .int (i2 y3))] → WS D aC ad A H0 M1 H locs → W p l e rm_X11_close s m args below meth c H locs 0 0 Q (F0 m 32 ls [])) (HE : ∀ (y3 : Int) (M1 : Mem) (H : Heap) (locs : List Loc) (ls : Array Slot), o = .inr (y3, M1) → inR y3 → lv_has ls 5 [(0, .ref (ad 80)), (1, .int (i2 v1)), (2, .int (i2 v2)), (3, .int (i2 y3))] → WS D aC ad A H0 M1 H locs → W p l e rm_X11_close s m args below meth c H locs 0 0 Q (F0 m 135 ls [])) (v3 : Int) (hv3 : inR v3) (s0 : Int) (hs0 : inR s0) (M : Mem) (hf : f_X11_close_j107k32 v1 v2 v3 s0 M = some o) {H : Heap} {locs : List Loc} {ls : Array Slot} (hl : lv_has ls 5 [(0, .ref (ad 80)), (1, .int (i2 v1)), (2, .int (i2 v2)), (3, .int (i2 v3))]) (w : WS D aC ad A H0 M H locs) : W p l e rm_X11_close s m args below meth c H locs 0 0 Q (F0 m 107 ls [.int (i2 s0)]) := by
  have hx := X.1.1
  have hb := X.1.2.1
  unfold f_X11_close_j107k32 at hf
  refine g_ist (v := s0) (lv' := [(4, .int (i2 s0)), (0, .ref (ad 80)), (1, .int (i2 v1)), (2, .int (i2 v2)), (3, .int (i2 v3))]) X rfl dX11_close_107 hl (by decide) rfl (fun ls hl => ?_)
  refine lv_iload hx hb dX11_close_109 (lv_at hl 0 rfl) ?_
  refine g_if_eq (tgt := 129) X hs0 dX11_close_111 (by decide) (fun cd => ?_) (fun cd => ?_)
  · replace hf := ite_t cd hf
    obtain ⟨v3_2, ev3_2, hf⟩ := lt_some hf
    have hv3_2 : inR v3_2 := inR_of ev3_2 (inR_wrap _)
    refine lv_iinc (v := i2 v3_2) (lv' := [(3, .int (i2 v3_2)), (4, .int (i2 s0)), (0, .ref (ad 80)), (1, .int (i2 v1)), (2, .int (i2 v2))]) hx hb dX11_close_129 hl (k := 4) rfl (by rw [ev3_2]; exact i2_add _ _) (by decide) rfl (fun ls hl => ?_)
    refine lv_goto (tgt := 32) hx hb dX11_close_132 (by decide) ?_
    exact HC v3_2 M _ _ _ (Option.some.inj hf).symm hv3_2 (lv_sub hl [2, 3, 4, 0] rfl) w
  · replace hf := ite_f cd hf
    refine lv_aload_n hx hb dX11_close_114 rfl (lv_at hl 1 rfl) ?_
    refine g_getr X w fg_X11_28 KD_80 FR_80_8 dX11_close_115 ?_
    refine g_bipush X dX11_close_118 (by decide) ?_
    refine lv_iload_n hx hb dX11_close_120 rfl (lv_at hl 3 rfl) ?_
    refine g_imul X dX11_close_121 ?_
    refine lv_iload_n hx hb dX11_close_122 rfl (lv_at hl 4 rfl) ?_
    refine g_iadd X dX11_close_123 ?_
    refine lv_dup2_11 hx hb dX11_close_124 rfl rfl ?_
    obtain ⟨hg, hf⟩ := gd_some hf
    refine g_iald X w KD_87 (inR_wrap _) hg dX11_close_125 ?_
    refine g_iconst X dX11_close_126 ?_
    refine g_iadd X dX11_close_127 ?_
    obtain ⟨hg_2, hf⟩ := gd_some hf
    obtain ⟨M_2, eM_2, hf⟩ := lt_some hf
    refine g_iast X w KD_87 (inR_wrap _) hg_2 (inR_wrap _) dX11_close_128 (fun H locs w_M_2 => ?_)
    rw [← eM_2] at w_M_2
    obtain ⟨v3_3, ev3_3, hf⟩ := lt_some hf
    have hv3_3 : inR v3_3 := inR_of ev3_3 (inR_wrap _)
    refine lv_iinc (v := i2 v3_3) (lv' := [(3, .int (i2 v3_3)), (4, .int (i2 s0)), (0, .ref (ad 80)), (1, .int (i2 v1)), (2, .int (i2 v2))]) hx hb dX11_close_129 hl (k := 4) rfl (by rw [ev3_3]; exact i2_add _ _) (by decide) rfl (fun ls hl => ?_)
    refine lv_goto (tgt := 32) hx hb dX11_close_132 (by decide) ?_
    exact HC v3_3 M_2 _ _ _ (Option.some.inj hf).symm hv3_3 (lv_sub hl [2, 3, 4, 0] rfl) w_M_2
set_option maxRecDepth 100000 in
set_option maxHeartbeats 4000000 in
theorem b_X11_close_s32 (X : CX p s m args c cX11_close 5 RX11 D aC ad sg A H0) (v1 : Int) (hv1 : inR v1) (v2 : Int) (hv2 : inR v2) {o : (Int × Mem) ⊕ (Int × Mem)} (HC : ∀ (y3 : Int) (M1 : Mem) (H : Heap) (locs : List Loc) (ls : Array Slot), o = .inl (y3, M1) → inR y3 → lv_has ls 5 [(0, .ref (ad 80)), (1, .int (i2 v1)), (2, .int (i2 v2)), (3, .int (i2 y3))] → WS D aC ad A H0 M1 H locs → W p l e rm_X11_close s m args below meth c H locs 0 0 Q (F0 m 32 ls [])) (HE : ∀ (y3 : Int) (M1 : Mem) (H : Heap) (locs : List Loc) (ls : Array Slot), o = .inr (y3, M1) → inR y3 → lv_has ls 5 [(0, .ref (ad 80)), (1, .int (i2 v1)), (2, .int (i2 v2)), (3, .int (i2 y3))] → WS D aC ad A H0 M1 H locs → W p l e rm_X11_close s m args below meth c H locs 0 0 Q (F0 m 135 ls [])) (v3 : Int) (hv3 : inR v3) (M : Mem) (hf : f_X11_close_s32 v1 v2 v3 M = some o) {H : Heap} {locs : List Loc} {ls : Array Slot} (hl : lv_has ls 5 [(0, .ref (ad 80)), (1, .int (i2 v1)), (2, .int (i2 v2)), (3, .int (i2 v3))]) (w : WS D aC ad A H0 M H locs) : W p l e rm_X11_close s m args below meth c H locs 0 0 Q (F0 m 32 ls []) := by
  have hx := X.1.1
  have hb := X.1.2.1
  unfold f_X11_close_s32 at hf
  refine lv_iload_n hx hb dX11_close_32 rfl (lv_at hl 3 rfl) ?_
  refine lv_aload_n hx hb dX11_close_33 rfl (lv_at hl 0 rfl) ?_
  refine g_geti X w fg_X11_142 KD_80 FR_80_1 dX11_close_34 ?_
  refine g_icmp_ge (tgt := 135) X hv3 (w.2.2 _ _) dX11_close_37 (by decide) (fun cd => ?_) (fun cd => ?_)
  · replace hf := ite_t cd hf
    exact HE v3 M _ _ _ (Option.some.inj hf).symm hv3 hl w
  · replace hf := ite_f cd hf
    refine lv_iload_n hx hb dX11_close_40 rfl (lv_at hl 2 rfl) ?_
    refine lv_iload_n hx hb dX11_close_41 rfl (lv_at hl 3 rfl) ?_
    refine g_icmp_eq (tgt := 106) X hv2 hv3 dX11_close_42 (by decide) (fun cd_2 => ?_) (fun cd_2 => ?_)
    · replace hf := ite_t cd_2 hf
      refine g_iconst X dX11_close_106 ?_
      exact b_X11_close_j107k32 X v1 hv1 v2 hv2 HC HE v3 hv3 0 (inL rfl) M hf hl w
    · replace hf := ite_f cd_2 hf
      refine lv_aload_n hx hb dX11_close_45 rfl (lv_at hl 0 rfl) ?_
      refine g_getr X w fg_X11_106 KD_80 FR_80_47 dX11_close_46 ?_
      refine lv_iload_n hx hb dX11_close_49 rfl (lv_at hl 2 rfl) ?_
      obtain ⟨hg, hf⟩ := gd_some hf
      refine g_iald X w KD_110 hv2 hg dX11_close_50 ?_
      refine g_iconst X dX11_close_51 ?_
      refine g_icmp_eq (tgt := 106) X (w.2.2 _ _) (inL rfl) dX11_close_52 (by decide) (fun cd_3 => ?_) (fun cd_3 => ?_)
      · replace hf := ite_t cd_3 hf
        refine g_iconst X dX11_close_106 ?_
        exact b_X11_close_j107k32 X v1 hv1 v2 hv2 HC HE v3 hv3 0 (inL rfl) M hf hl w
      · replace hf := ite_f cd_3 hf
        refine lv_aload_n hx hb dX11_close_55 rfl (lv_at hl 0 rfl) ?_
        refine g_getr X w fg_X11_106 KD_80 FR_80_47 dX11_close_56 ?_
        refine lv_iload_n hx hb dX11_close_59 rfl (lv_at hl 2 rfl) ?_
        obtain ⟨hg_2, hf⟩ := gd_some hf
        refine g_iald X w KD_110 hv2 hg_2 dX11_close_60 ?_
        refine lv_aload_n hx hb dX11_close_61 rfl (lv_at hl 0 rfl) ?_
        refine g_getr X w fg_X11_106 KD_80 FR_80_47 dX11_close_62 ?_
        refine lv_iload_n hx hb dX11_close_65 rfl (lv_at hl 3 rfl) ?_
        obtain ⟨hg_3, hf⟩ := gd_some hf
        refine g_iald X w KD_110 hv3 hg_3 dX11_close_66 ?_
        refine g_icmp_ne (tgt := 106) X (w.2.2 _ _) (w.2.2 _ _) dX11_close_67 (by decide) (fun cd_4 => ?_) (fun cd_4 => ?_)
        · replace hf := ite_f cd_4 hf
          refine g_iconst X dX11_close_106 ?_
          exact b_X11_close_j107k32 X v1 hv1 v2 hv2 HC HE v3 hv3 0 (inL rfl) M hf hl w
        · replace hf := ite_t cd_4 hf
          refine lv_aload_n hx hb dX11_close_70 rfl (lv_at hl 0 rfl) ?_
          refine lv_iload_n hx hb dX11_close_71 rfl (lv_at hl 2 rfl) ?_
          obtain ⟨r, hc, hf⟩ := obn_some hf
          refine g_cvi (As := [.int (i2 v2)]) (rest := []) X w (k_X11_isLow X.2.2.1 v2 hv2 w.2.2 hc) lk_X11_402 cl_11 KD_80 ⟨rfl, rfl⟩ ⟨nle rfl, nle rfl⟩ ⟨nle rfl, nle rfl⟩ hl.1 rfl (nle rfl) dX11_close_72 (fun hr H locs w => ?_)
          refine g_if_eq (tgt := 106) X hr dX11_close_75 (by decide) (fun cd_5 => ?_) (fun cd_5 => ?_)
          · replace hf := ite_t cd_5 hf
            refine g_iconst X dX11_close_106 ?_
            exact b_X11_close_j107k32 X v1 hv1 v2 hv2 HC HE v3 hv3 0 (inL rfl) M hf hl w
          · replace hf := ite_f cd_5 hf
            refine lv_aload_n hx hb dX11_close_78 rfl (lv_at hl 0 rfl) ?_
            refine lv_iload_n hx hb dX11_close_79 rfl (lv_at hl 3 rfl) ?_
            obtain ⟨r_2, hc, hf⟩ := obn_some hf
            refine g_cvi (As := [.int (i2 v3)]) (rest := []) X w (k_X11_isLow X.2.2.1 v3 hv3 w.2.2 hc) lk_X11_402 cl_11 KD_80 ⟨rfl, rfl⟩ ⟨nle rfl, nle rfl⟩ ⟨nle rfl, nle rfl⟩ hl.1 rfl (nle rfl) dX11_close_80 (fun hr_2 H locs w => ?_)
            refine g_if_eq (tgt := 106) X hr_2 dX11_close_83 (by decide) (fun cd_6 => ?_) (fun cd_6 => ?_)
            · replace hf := ite_t cd_6 hf
              refine g_iconst X dX11_close_106 ?_
              exact b_X11_close_j107k32 X v1 hv1 v2 hv2 HC HE v3 hv3 0 (inL rfl) M hf hl w
            · replace hf := ite_f cd_6 hf
              refine lv_aload_n hx hb dX11_close_86 rfl (lv_at hl 0 rfl) ?_
              refine g_getr X w fg_X11_28 KD_80 FR_80_8 dX11_close_87 ?_
              refine g_bipush X dX11_close_90 (by decide) ?_
              refine lv_iload_n hx hb dX11_close_92 rfl (lv_at hl 2 rfl) ?_
              refine g_imul X dX11_close_93 ?_
              refine lv_iload_n hx hb dX11_close_94 rfl (lv_at hl 3 rfl) ?_
              refine g_iadd X dX11_close_95 ?_
              obtain ⟨hg_4, hf⟩ := gd_some hf
              refine g_iald X w KD_87 (inR_wrap _) hg_4 dX11_close_96 ?_
              refine g_bipush X dX11_close_97 (by decide) ?_
              refine g_icmp_ge (tgt := 106) X (w.2.2 _ _) (inL rfl) dX11_close_99 (by decide) (fun cd_7 => ?_) (fun cd_7 => ?_)
              · replace hf := ite_t cd_7 hf
                refine g_iconst X dX11_close_106 ?_
                exact b_X11_close_j107k32 X v1 hv1 v2 hv2 HC HE v3 hv3 0 (inL rfl) M hf hl w
              · replace hf := ite_f cd_7 hf
                refine g_iconst X dX11_close_102 ?_
                refine lv_goto (tgt := 107) hx hb dX11_close_103 (by decide) ?_
                exact b_X11_close_j107k32 X v1 hv1 v2 hv2 HC HE v3 hv3 1 (inL rfl) M hf hl w
set_option maxRecDepth 100000 in
set_option maxHeartbeats 4000000 in
theorem l_X11_close_32 (X : CX p s m args c cX11_close 5 RX11 D aC ad sg A H0) (v1 : Int) (hv1 : inR v1) (v2 : Int) (hv2 : inR v2) {out : Int × Mem} (HE : ∀ (y3 : Int) (M1 : Mem) (H : Heap) (locs : List Loc) (ls : Array Slot), out = (y3, M1) → inR y3 → lv_has ls 5 [(0, .ref (ad 80)), (1, .int (i2 v1)), (2, .int (i2 v2)), (3, .int (i2 y3))] → WS D aC ad A H0 M1 H locs → W p l e rm_X11_close s m args below meth c H locs 0 0 Q (F0 m 135 ls [])) : ∀ (n : Nat) (v3 : Int) (M : Mem), whl (fun s => f_X11_close_s32 v1 v2 s.1 s.2) n (v3, M) = some out → inR v3 → ∀ {H : Heap} {locs : List Loc} {ls : Array Slot}, lv_has ls 5 [(0, .ref (ad 80)), (1, .int (i2 v1)), (2, .int (i2 v2)), (3, .int (i2 v3))] → WS D aC ad A H0 M H locs → W p l e rm_X11_close s m args below meth c H locs 0 0 Q (F0 m 32 ls []) := by
  intro n
  induction n with
  | zero => intro v3 M hf; exact (whl_zero hf).elim
  | succ n ih =>
    intro v3 M hf hv3 H locs ls hl w
    obtain ⟨o, hf, hk1, hk2⟩ := whl_step hf
    exact b_X11_close_s32 X v1 hv1 v2 hv2 (fun y3 M1 H locs ls eo hy3 hl w => ih y3 M1 (hk1 _ eo) hy3 hl w) (fun y3 M1 H locs ls eo hy3 hl w => HE y3 M1 H locs ls (hk2 _ eo).symm hy3 hl w) v3 hv3 M hf hl w
set_option maxRecDepth 100000 in
set_option maxHeartbeats 4000000 in
theorem b_X11_close_j173k22 (X : CX p s m args c cX11_close 5 RX11 D aC ad sg A H0) {o : (Int × Int × Mem) ⊕ (Int × Int × Mem)} (HC : ∀ (y1 : Int) (y2 : Int) (M1 : Mem) (H : Heap) (locs : List Loc) (ls : Array Slot), o = .inl (y1, y2, M1) → inR y1 → inR y2 → lv_has ls 5 [(0, .ref (ad 80)), (1, .int (i2 y1)), (2, .int (i2 y2))] → WS D aC ad A H0 M1 H locs → W p l e rm_X11_close s m args below meth c H locs 0 0 Q (F0 m 22 ls [])) (HE : ∀ (y1 : Int) (y2 : Int) (M1 : Mem) (H : Heap) (locs : List Loc) (ls : Array Slot), o = .inr (y1, y2, M1) → inR y1 → inR y2 → lv_has ls 5 [(0, .ref (ad 80)), (1, .int (i2 y1)), (2, .int (i2 y2))] → WS D aC ad A H0 M1 H locs → W p l e rm_X11_close s m args below meth c H locs 0 0 Q (F0 m 219 ls [])) (v1 : Int) (hv1 : inR v1) (v2 : Int) (hv2 : inR v2) (v3 : Int) (hv3 : inR v3) (s0 : Int) (hs0 : inR s0) (s1 : Int) (hs1 : inR s1) (M : Mem) (hf : f_X11_close_j173k22 v1 v2 v3 s0 s1 M = some o) {H : Heap} {locs : List Loc} {ls : Array Slot} (hl : lv_has ls 5 [(0, .ref (ad 80)), (1, .int (i2 v1)), (2, .int (i2 v2)), (3, .int (i2 v3))]) (w : WS D aC ad A H0 M H locs) : W p l e rm_X11_close s m args below meth c H locs 0 0 Q (F0 m 173 ls [.int (i2 s0), .int (i2 s1)]) := by
  have hx := X.1.1
  have hb := X.1.2.1
  unfold f_X11_close_j173k22 at hf
  refine g_iadd X dX11_close_173 ?_
  obtain ⟨v1_2, ev1_2, hf⟩ := lt_some hf
  have hv1_2 : inR v1_2 := inR_of ev1_2 (inR_wrap _)
  refine g_istn (v := v1_2) (lv' := [(1, .int (i2 v1_2)), (0, .ref (ad 80)), (2, .int (i2 v2)), (3, .int (i2 v3))]) X ev1_2 dX11_close_174 rfl hl (by decide) rfl (fun ls hl => ?_)
  refine lv_aload_n hx hb dX11_close_175 rfl (lv_at hl 1 rfl) ?_
  refine g_getr X w fg_X11_22 KD_80 FR_80_6 dX11_close_176 ?_
  refine lv_iload_n hx hb dX11_close_179 rfl (lv_at hl 2 rfl) ?_
  refine lv_iload_n hx hb dX11_close_180 rfl (lv_at hl 3 rfl) ?_
  refine g_if_ne (tgt := 188) X hv3 dX11_close_181 (by decide) (fun cd => ?_) (fun cd => ?_)
  · replace hf := ite_f cd hf
    refine lv_aload_n hx hb dX11_close_188 rfl (lv_at hl 1 rfl) ?_
    refine g_getr X w fg_X11_22 KD_80 FR_80_6 dX11_close_189 ?_
    refine lv_iload_n hx hb dX11_close_192 rfl (lv_at hl 2 rfl) ?_
    obtain ⟨hg, hf⟩ := gd_some hf
    refine g_iald X w KD_85 hv2 hg dX11_close_193 ?_
    refine g_bipush X dX11_close_194 (by decide) ?_
    refine g_icmp_ge (tgt := 210) X (w.2.2 _ _) (inL rfl) dX11_close_196 (by decide) (fun cd_2 => ?_) (fun cd_2 => ?_)
    · replace hf := ite_t cd_2 hf
      refine g_bipush X dX11_close_210 (by decide) ?_
      obtain ⟨hg_2, hf⟩ := gd_some hf
      obtain ⟨M_2, eM_2, hf⟩ := lt_some hf
      refine g_iast X w KD_85 hv2 hg_2 (inL rfl) dX11_close_212 (fun H locs w_M_2 => ?_)
      rw [← eM_2] at w_M_2
      obtain ⟨v2_2, ev2_2, hf⟩ := lt_some hf
      have hv2_2 : inR v2_2 := inR_of ev2_2 (inR_wrap _)
      refine lv_iinc (v := i2 v2_2) (lv' := [(2, .int (i2 v2_2)), (1, .int (i2 v1_2)), (0, .ref (ad 80)), (3, .int (i2 v3))]) hx hb dX11_close_213 hl (k := 2) rfl (by rw [ev2_2]; exact i2_add _ _) (by decide) rfl (fun ls hl => ?_)
      refine lv_goto (tgt := 22) hx hb dX11_close_216 (by decide) ?_
      exact HC v1_2 v2_2 M_2 _ _ _ (Option.some.inj hf).symm hv1_2 hv2_2 (lv_sub hl [2, 1, 0] rfl) w_M_2
    · replace hf := ite_f cd_2 hf
      refine lv_aload_n hx hb dX11_close_199 rfl (lv_at hl 1 rfl) ?_
      refine g_getr X w fg_X11_22 KD_80 FR_80_6 dX11_close_200 ?_
      refine lv_iload_n hx hb dX11_close_203 rfl (lv_at hl 2 rfl) ?_
      obtain ⟨hg_3, hf⟩ := gd_some hf
      refine g_iald X w KD_85 hv2 hg_3 dX11_close_204 ?_
      refine g_iconst X dX11_close_205 ?_
      refine g_iadd X dX11_close_206 ?_
      refine lv_goto (tgt := 212) hx hb dX11_close_207 (by decide) ?_
      obtain ⟨hg_4, hf⟩ := gd_some hf
      obtain ⟨M_3, eM_3, hf⟩ := lt_some hf
      refine g_iast X w KD_85 hv2 hg_4 (inR_wrap _) dX11_close_212 (fun H locs w_M_3 => ?_)
      rw [← eM_3] at w_M_3
      obtain ⟨v2_3, ev2_3, hf⟩ := lt_some hf
      have hv2_3 : inR v2_3 := inR_of ev2_3 (inR_wrap _)
      refine lv_iinc (v := i2 v2_3) (lv' := [(2, .int (i2 v2_3)), (1, .int (i2 v1_2)), (0, .ref (ad 80)), (3, .int (i2 v3))]) hx hb dX11_close_213 hl (k := 2) rfl (by rw [ev2_3]; exact i2_add _ _) (by decide) rfl (fun ls hl => ?_)
      refine lv_goto (tgt := 22) hx hb dX11_close_216 (by decide) ?_
      exact HC v1_2 v2_3 M_3 _ _ _ (Option.some.inj hf).symm hv1_2 hv2_3 (lv_sub hl [2, 1, 0] rfl) w_M_3
  · replace hf := ite_t cd hf
    refine g_iconst X dX11_close_184 ?_
    refine lv_goto (tgt := 212) hx hb dX11_close_185 (by decide) ?_
    obtain ⟨hg_5, hf⟩ := gd_some hf
    obtain ⟨M_4, eM_4, hf⟩ := lt_some hf
    refine g_iast X w KD_85 hv2 hg_5 (inL rfl) dX11_close_212 (fun H locs w_M_4 => ?_)
    rw [← eM_4] at w_M_4
    obtain ⟨v2_4, ev2_4, hf⟩ := lt_some hf
    have hv2_4 : inR v2_4 := inR_of ev2_4 (inR_wrap _)
    refine lv_iinc (v := i2 v2_4) (lv' := [(2, .int (i2 v2_4)), (1, .int (i2 v1_2)), (0, .ref (ad 80)), (3, .int (i2 v3))]) hx hb dX11_close_213 hl (k := 2) rfl (by rw [ev2_4]; exact i2_add _ _) (by decide) rfl (fun ls hl => ?_)
    refine lv_goto (tgt := 22) hx hb dX11_close_216 (by decide) ?_
    exact HC v1_2 v2_4 M_4 _ _ _ (Option.some.inj hf).symm hv1_2 hv2_4 (lv_sub hl [2, 1, 0] rfl) w_M_4
set_option maxRecDepth 100000 in
set_option maxHeartbeats 4000000 in
theorem b_X11_close_j162k22 (X : CX p s m args c cX11_close 5 RX11 D aC ad sg A H0) {o : (Int × Int × Mem) ⊕ (Int × Int × Mem)} (HC : ∀ (y1 : Int) (y2 : Int) (M1 : Mem) (H : Heap) (locs : List Loc) (ls : Array Slot), o = .inl (y1, y2, M1) → inR y1 → inR y2 → lv_has ls 5 [(0, .ref (ad 80)), (1, .int (i2 y1)), (2, .int (i2 y2))] → WS D aC ad A H0 M1 H locs → W p l e rm_X11_close s m args below meth c H locs 0 0 Q (F0 m 22 ls [])) (HE : ∀ (y1 : Int) (y2 : Int) (M1 : Mem) (H : Heap) (locs : List Loc) (ls : Array Slot), o = .inr (y1, y2, M1) → inR y1 → inR y2 → lv_has ls 5 [(0, .ref (ad 80)), (1, .int (i2 y1)), (2, .int (i2 y2))] → WS D aC ad A H0 M1 H locs → W p l e rm_X11_close s m args below meth c H locs 0 0 Q (F0 m 219 ls [])) (v1 : Int) (hv1 : inR v1) (v2 : Int) (hv2 : inR v2) (s0 : Int) (hs0 : inR s0) (M : Mem) (hf : f_X11_close_j162k22 v1 v2 s0 M = some o) {H : Heap} {locs : List Loc} {ls : Array Slot} (hl : lv_has ls 5 [(0, .ref (ad 80)), (1, .int (i2 v1)), (2, .int (i2 v2))]) (w : WS D aC ad A H0 M H locs) : W p l e rm_X11_close s m args below meth c H locs 0 0 Q (F0 m 162 ls [.int (i2 s0)]) := by
  have hx := X.1.1
  have hb := X.1.2.1
  unfold f_X11_close_j162k22 at hf
  refine g_istn (v := s0) (lv' := [(3, .int (i2 s0)), (0, .ref (ad 80)), (1, .int (i2 v1)), (2, .int (i2 v2))]) X rfl dX11_close_162 rfl hl (by decide) rfl (fun ls hl => ?_)
  refine lv_iload_n hx hb dX11_close_163 rfl (lv_at hl 2 rfl) ?_
  refine lv_iload_n hx hb dX11_close_164 rfl (lv_at hl 0 rfl) ?_
  refine g_if_eq (tgt := 172) X hs0 dX11_close_165 (by decide) (fun cd => ?_) (fun cd => ?_)
  · replace hf := ite_t cd hf
    refine g_iconst X dX11_close_172 ?_
    exact b_X11_close_j173k22 X  HC HE v1 hv1 v2 hv2 s0 hs0 0 (inL rfl) v1 hv1 M hf (lv_sub hl [1, 2, 3, 0] rfl) w
  · replace hf := ite_f cd hf
    refine g_iconst X dX11_close_168 ?_
    refine lv_goto (tgt := 173) hx hb dX11_close_169 (by decide) ?_
    exact b_X11_close_j173k22 X  HC HE v1 hv1 v2 hv2 s0 hs0 1 (inL rfl) v1 hv1 M hf (lv_sub hl [1, 2, 3, 0] rfl) w
set_option maxRecDepth 100000 in
set_option maxHeartbeats 4000000 in
theorem b_X11_close_j135k22 (X : CX p s m args c cX11_close 5 RX11 D aC ad sg A H0) {o : (Int × Int × Mem) ⊕ (Int × Int × Mem)} (HC : ∀ (y1 : Int) (y2 : Int) (M1 : Mem) (H : Heap) (locs : List Loc) (ls : Array Slot), o = .inl (y1, y2, M1) → inR y1 → inR y2 → lv_has ls 5 [(0, .ref (ad 80)), (1, .int (i2 y1)), (2, .int (i2 y2))] → WS D aC ad A H0 M1 H locs → W p l e rm_X11_close s m args below meth c H locs 0 0 Q (F0 m 22 ls [])) (HE : ∀ (y1 : Int) (y2 : Int) (M1 : Mem) (H : Heap) (locs : List Loc) (ls : Array Slot), o = .inr (y1, y2, M1) → inR y1 → inR y2 → lv_has ls 5 [(0, .ref (ad 80)), (1, .int (i2 y1)), (2, .int (i2 y2))] → WS D aC ad A H0 M1 H locs → W p l e rm_X11_close s m args below meth c H locs 0 0 Q (F0 m 219 ls [])) (v1 : Int) (hv1 : inR v1) (v2 : Int) (hv2 : inR v2) (M : Mem) (hf : f_X11_close_j135k22 v1 v2 M = some o) {H : Heap} {locs : List Loc} {ls : Array Slot} (hl : lv_has ls 5 [(0, .ref (ad 80)), (1, .int (i2 v1)), (2, .int (i2 v2))]) (w : WS D aC ad A H0 M H locs) : W p l e rm_X11_close s m args below meth c H locs 0 0 Q (F0 m 135 ls []) := by
  have hx := X.1.1
  have hb := X.1.2.1
  unfold f_X11_close_j135k22 at hf
  refine lv_aload_n hx hb dX11_close_135 rfl (lv_at hl 0 rfl) ?_
  refine g_getr X w fg_X11_106 KD_80 FR_80_47 dX11_close_136 ?_
  refine lv_iload_n hx hb dX11_close_139 rfl (lv_at hl 2 rfl) ?_
  obtain ⟨hg, hf⟩ := gd_some hf
  refine g_iald X w KD_110 hv2 hg dX11_close_140 ?_
  refine g_iconst X dX11_close_141 ?_
  refine g_icmp_ne (tgt := 148) X (w.2.2 _ _) (inL rfl) dX11_close_142 (by decide) (fun cd => ?_) (fun cd => ?_)
  · replace hf := ite_f cd hf
    refine lv_aload_n hx hb dX11_close_148 rfl (lv_at hl 0 rfl) ?_
    refine lv_iload_n hx hb dX11_close_149 rfl (lv_at hl 2 rfl) ?_
    obtain ⟨r, hc, hf⟩ := obn_some hf
    refine g_cvi (As := [.int (i2 v2)]) (rest := []) X w (k_X11_servedIn X.2.2.1 v2 hv2 w.2.2 hc) lk_X11_337 cl_11 KD_80 ⟨rfl, rfl⟩ ⟨nle rfl, nle rfl⟩ ⟨nle rfl, nle rfl⟩ hl.1 rfl (nle rfl) dX11_close_150 (fun hr H locs w => ?_)
    refine g_iconst X dX11_close_153 ?_
    refine g_icmp_ne (tgt := 161) X hr (inL rfl) dX11_close_154 (by decide) (fun cd_2 => ?_) (fun cd_2 => ?_)
    · replace hf := ite_f cd_2 hf
      refine g_iconst X dX11_close_161 ?_
      exact b_X11_close_j162k22 X  HC HE v1 hv1 v2 hv2 0 (inL rfl) M hf hl w
    · replace hf := ite_t cd_2 hf
      refine g_iconst X dX11_close_157 ?_
      refine lv_goto (tgt := 162) hx hb dX11_close_158 (by decide) ?_
      exact b_X11_close_j162k22 X  HC HE v1 hv1 v2 hv2 1 (inL rfl) M hf hl w
  · replace hf := ite_t cd hf
    refine lv_goto (tgt := 213) hx hb dX11_close_145 (by decide) ?_
    obtain ⟨v2_2, ev2_2, hf⟩ := lt_some hf
    have hv2_2 : inR v2_2 := inR_of ev2_2 (inR_wrap _)
    refine lv_iinc (v := i2 v2_2) (lv' := [(2, .int (i2 v2_2)), (0, .ref (ad 80)), (1, .int (i2 v1))]) hx hb dX11_close_213 hl (k := 2) rfl (by rw [ev2_2]; exact i2_add _ _) (by decide) rfl (fun ls hl => ?_)
    refine lv_goto (tgt := 22) hx hb dX11_close_216 (by decide) ?_
    exact HC v1 v2_2 M _ _ _ (Option.some.inj hf).symm hv1 hv2_2 (lv_sub hl [1, 2, 0] rfl) w
set_option maxRecDepth 100000 in
set_option maxHeartbeats 4000000 in
theorem b_X11_close_s22 (X : CX p s m args c cX11_close 5 RX11 D aC ad sg A H0) {o : (Int × Int × Mem) ⊕ (Int × Int × Mem)} (HC : ∀ (y1 : Int) (y2 : Int) (M1 : Mem) (H : Heap) (locs : List Loc) (ls : Array Slot), o = .inl (y1, y2, M1) → inR y1 → inR y2 → lv_has ls 5 [(0, .ref (ad 80)), (1, .int (i2 y1)), (2, .int (i2 y2))] → WS D aC ad A H0 M1 H locs → W p l e rm_X11_close s m args below meth c H locs 0 0 Q (F0 m 22 ls [])) (HE : ∀ (y1 : Int) (y2 : Int) (M1 : Mem) (H : Heap) (locs : List Loc) (ls : Array Slot), o = .inr (y1, y2, M1) → inR y1 → inR y2 → lv_has ls 5 [(0, .ref (ad 80)), (1, .int (i2 y1)), (2, .int (i2 y2))] → WS D aC ad A H0 M1 H locs → W p l e rm_X11_close s m args below meth c H locs 0 0 Q (F0 m 219 ls [])) (v1 : Int) (hv1 : inR v1) (v2 : Int) (hv2 : inR v2) (M : Mem) (hf : f_X11_close_s22 v1 v2 M = some o) {H : Heap} {locs : List Loc} {ls : Array Slot} (hl : lv_has ls 5 [(0, .ref (ad 80)), (1, .int (i2 v1)), (2, .int (i2 v2))]) (w : WS D aC ad A H0 M H locs) : W p l e rm_X11_close s m args below meth c H locs 0 0 Q (F0 m 22 ls []) := by
  have hx := X.1.1
  have hb := X.1.2.1
  unfold f_X11_close_s22 at hf
  refine lv_iload_n hx hb dX11_close_22 rfl (lv_at hl 2 rfl) ?_
  refine lv_aload_n hx hb dX11_close_23 rfl (lv_at hl 0 rfl) ?_
  refine g_geti X w fg_X11_142 KD_80 FR_80_1 dX11_close_24 ?_
  refine g_icmp_ge (tgt := 219) X hv2 (w.2.2 _ _) dX11_close_27 (by decide) (fun cd => ?_) (fun cd => ?_)
  · replace hf := ite_t cd hf
    exact HE v1 v2 M _ _ _ (Option.some.inj hf).symm hv1 hv2 hl w
  · replace hf := ite_f cd hf
    refine g_iconst X dX11_close_30 ?_
    refine g_istn (v := 0) (lv' := [(3, .int (i2 0)), (0, .ref (ad 80)), (1, .int (i2 v1)), (2, .int (i2 v2))]) X rfl dX11_close_31 rfl hl (by decide) rfl (fun ls hl => ?_)
    obtain ⟨q, hq, h1⟩ := obn_some hf
    exact l_X11_close_32 X v1 hv1 v2 hv2 (out := q) (fun y3 M1 H locs ls eq hy3 hl w => b_X11_close_j135k22 X  HC HE v1 hv1 v2 hv2 M1 (by subst eq; exact h1) (lv_sub hl [0, 1, 2] rfl) w)  FU 0 M hq (inL rfl) (lv_sub hl [1, 2, 3, 0] rfl) w
set_option maxRecDepth 100000 in
set_option maxHeartbeats 4000000 in
theorem l_X11_close_22 (X : CX p s m args c cX11_close 5 RX11 D aC ad sg A H0) {out : Int × Int × Mem} (HE : ∀ (y1 : Int) (y2 : Int) (M1 : Mem) (H : Heap) (locs : List Loc) (ls : Array Slot), out = (y1, y2, M1) → inR y1 → inR y2 → lv_has ls 5 [(0, .ref (ad 80)), (1, .int (i2 y1)), (2, .int (i2 y2))] → WS D aC ad A H0 M1 H locs → W p l e rm_X11_close s m args below meth c H locs 0 0 Q (F0 m 219 ls [])) : ∀ (n : Nat) (v1 : Int) (v2 : Int) (M : Mem), whl (fun s => f_X11_close_s22 s.1 s.2.1 s.2.2) n (v1, v2, M) = some out → inR v1 → inR v2 → ∀ {H : Heap} {locs : List Loc} {ls : Array Slot}, lv_has ls 5 [(0, .ref (ad 80)), (1, .int (i2 v1)), (2, .int (i2 v2))] → WS D aC ad A H0 M H locs → W p l e rm_X11_close s m args below meth c H locs 0 0 Q (F0 m 22 ls []) := by
  intro n
  induction n with
  | zero => intro v1 v2 M hf; exact (whl_zero hf).elim
  | succ n ih =>
    intro v1 v2 M hf hv1 hv2 H locs ls hl w
    obtain ⟨o, hf, hk1, hk2⟩ := whl_step hf
    exact b_X11_close_s22 X  (fun y1 y2 M1 H locs ls eo hy1 hy2 hl w => ih y1 y2 M1 (hk1 _ eo) hy1 hy2 hl w) (fun y1 y2 M1 H locs ls eo hy1 hy2 hl w => HE y1 y2 M1 H locs ls (hk2 _ eo).symm hy1 hy2 hl w) v1 hv1 v2 hv2 M hf hl w
set_option maxRecDepth 100000 in
set_option maxHeartbeats 4000000 in
theorem b_X11_close_s221 (X : CX p s m args c cX11_close 5 RX11 D aC ad sg A H0) (v1 : Int) (hv1 : inR v1) {o : (Int × Mem) ⊕ (Int × Mem)} (HC : ∀ (y2 : Int) (M1 : Mem) (H : Heap) (locs : List Loc) (ls : Array Slot), o = .inl (y2, M1) → inR y2 → lv_has ls 5 [(0, .ref (ad 80)), (1, .int (i2 v1)), (2, .int (i2 y2))] → WS D aC ad A H0 M1 H locs → W p l e rm_X11_close s m args below meth c H locs 0 0 Q (F0 m 221 ls [])) (HE : ∀ (y2 : Int) (M1 : Mem) (H : Heap) (locs : List Loc) (ls : Array Slot), o = .inr (y2, M1) → inR y2 → lv_has ls 5 [(0, .ref (ad 80)), (1, .int (i2 v1)), (2, .int (i2 y2))] → WS D aC ad A H0 M1 H locs → W p l e rm_X11_close s m args below meth c H locs 0 0 Q (F0 m 256 ls [])) (v2 : Int) (hv2 : inR v2) (M : Mem) (hf : f_X11_close_s221 v1 v2 M = some o) {H : Heap} {locs : List Loc} {ls : Array Slot} (hl : lv_has ls 5 [(0, .ref (ad 80)), (1, .int (i2 v1)), (2, .int (i2 v2))]) (w : WS D aC ad A H0 M H locs) : W p l e rm_X11_close s m args below meth c H locs 0 0 Q (F0 m 221 ls []) := by
  have hx := X.1.1
  have hb := X.1.2.1
  unfold f_X11_close_s221 at hf
  refine lv_iload_n hx hb dX11_close_221 rfl (lv_at hl 2 rfl) ?_
  refine lv_aload_n hx hb dX11_close_222 rfl (lv_at hl 0 rfl) ?_
  refine g_geti X w fg_X11_142 KD_80 FR_80_1 dX11_close_223 ?_
  refine g_icmp_ge (tgt := 256) X hv2 (w.2.2 _ _) dX11_close_226 (by decide) (fun cd => ?_) (fun cd => ?_)
  · replace hf := ite_t cd hf
    exact HE v2 M _ _ _ (Option.some.inj hf).symm hv2 hl w
  · replace hf := ite_f cd hf
    refine lv_aload_n hx hb dX11_close_229 rfl (lv_at hl 0 rfl) ?_
    refine g_getr X w fg_X11_106 KD_80 FR_80_47 dX11_close_230 ?_
    refine lv_iload_n hx hb dX11_close_233 rfl (lv_at hl 2 rfl) ?_
    refine g_iconst X dX11_close_234 ?_
    obtain ⟨hg, hf⟩ := gd_some hf
    obtain ⟨M_2, eM_2, hf⟩ := lt_some hf
    refine g_iast X w KD_110 hv2 hg (inL rfl) dX11_close_235 (fun H locs w_M_2 => ?_)
    rw [← eM_2] at w_M_2
    refine lv_aload_n hx hb dX11_close_236 rfl (lv_at hl 0 rfl) ?_
    refine g_getr X w_M_2 fg_X11_121 KD_80 FR_80_53 dX11_close_237 ?_
    refine lv_iload_n hx hb dX11_close_240 rfl (lv_at hl 2 rfl) ?_
    refine g_iconst X dX11_close_241 ?_
    obtain ⟨hg_2, hf⟩ := gd_some hf
    obtain ⟨M_3, eM_3, hf⟩ := lt_some hf
    refine g_iast X w_M_2 KD_114 hv2 hg_2 (inL rfl) dX11_close_242 (fun H locs w_M_3 => ?_)
    rw [← eM_3] at w_M_3
    refine lv_aload_n hx hb dX11_close_243 rfl (lv_at hl 0 rfl) ?_
    refine g_getr X w_M_3 fg_X11_124 KD_80 FR_80_54 dX11_close_244 ?_
    refine lv_iload_n hx hb dX11_close_247 rfl (lv_at hl 2 rfl) ?_
    refine g_iconst X dX11_close_248 ?_
    obtain ⟨hg_3, hf⟩ := gd_some hf
    obtain ⟨M_4, eM_4, hf⟩ := lt_some hf
    refine g_iast X w_M_3 KD_115 hv2 hg_3 (inL rfl) dX11_close_249 (fun H locs w_M_4 => ?_)
    rw [← eM_4] at w_M_4
    obtain ⟨v2_2, ev2_2, hf⟩ := lt_some hf
    have hv2_2 : inR v2_2 := inR_of ev2_2 (inR_wrap _)
    refine lv_iinc (v := i2 v2_2) (lv' := [(2, .int (i2 v2_2)), (0, .ref (ad 80)), (1, .int (i2 v1))]) hx hb dX11_close_250 hl (k := 2) rfl (by rw [ev2_2]; exact i2_add _ _) (by decide) rfl (fun ls hl => ?_)
    refine lv_goto (tgt := 221) hx hb dX11_close_253 (by decide) ?_
    exact HC v2_2 M_4 _ _ _ (Option.some.inj hf).symm hv2_2 (lv_sub hl [1, 2, 0] rfl) w_M_4
set_option maxRecDepth 100000 in
set_option maxHeartbeats 4000000 in
theorem l_X11_close_221 (X : CX p s m args c cX11_close 5 RX11 D aC ad sg A H0) (v1 : Int) (hv1 : inR v1) {out : Int × Mem} (HE : ∀ (y2 : Int) (M1 : Mem) (H : Heap) (locs : List Loc) (ls : Array Slot), out = (y2, M1) → inR y2 → lv_has ls 5 [(0, .ref (ad 80)), (1, .int (i2 v1)), (2, .int (i2 y2))] → WS D aC ad A H0 M1 H locs → W p l e rm_X11_close s m args below meth c H locs 0 0 Q (F0 m 256 ls [])) : ∀ (n : Nat) (v2 : Int) (M : Mem), whl (fun s => f_X11_close_s221 v1 s.1 s.2) n (v2, M) = some out → inR v2 → ∀ {H : Heap} {locs : List Loc} {ls : Array Slot}, lv_has ls 5 [(0, .ref (ad 80)), (1, .int (i2 v1)), (2, .int (i2 v2))] → WS D aC ad A H0 M H locs → W p l e rm_X11_close s m args below meth c H locs 0 0 Q (F0 m 221 ls []) := by
  intro n
  induction n with
  | zero => intro v2 M hf; exact (whl_zero hf).elim
  | succ n ih =>
    intro v2 M hf hv2 H locs ls hl w
    obtain ⟨o, hf, hk1, hk2⟩ := whl_step hf
    exact b_X11_close_s221 X v1 hv1 (fun y2 M1 H locs ls eo hy2 hl w => ih y2 M1 (hk1 _ eo) hy2 hl w) (fun y2 M1 H locs ls eo hy2 hl w => HE y2 M1 H locs ls (hk2 _ eo).symm hy2 hl w) v2 hv2 M hf hl w
set_option maxRecDepth 100000 in
set_option maxHeartbeats 4000000 in
theorem b_X11_close_j256 (X : CX p s m args c cX11_close 5 RX11 D aC ad sg A H0) {o : Int × Mem} (HR : ∀ (r : Int) (M1 : Mem) (H : Heap) (locs : List Loc) (pc : Nat) (ls : Array Slot), o = (r, M1) → inR r → WS D aC ad A H0 M1 H locs → decode cX11_close pc = .ok (.ireturn, 1) → W p l e rm_X11_close s m args below meth c H locs 0 0 Q (F0 m pc ls [.int (i2 r)])) (v1 : Int) (hv1 : inR v1) (M : Mem) (hf : f_X11_close_j256 v1 M = some o) {H : Heap} {locs : List Loc} {ls : Array Slot} (hl : lv_has ls 5 [(0, .ref (ad 80)), (1, .int (i2 v1))]) (w : WS D aC ad A H0 M H locs) : W p l e rm_X11_close s m args below meth c H locs 0 0 Q (F0 m 256 ls []) := by
  have hx := X.1.1
  have hb := X.1.2.1
  unfold f_X11_close_j256 at hf
  refine lv_aload_n hx hb dX11_close_256 rfl (lv_at hl 0 rfl) ?_
  refine lv_dup hx hb dX11_close_257 rfl ?_
  refine g_geti X w fg_X11_405 KD_80 FR_80_55 dX11_close_258 ?_
  refine g_iconst X dX11_close_261 ?_
  refine g_iadd X dX11_close_262 ?_
  obtain ⟨M_2, eM_2, hf⟩ := lt_some hf
  refine g_puti X w fp_X11_405 KD_80 FR_80_55 (inR_wrap _) dX11_close_263 (fun H locs w_M_2 => ?_)
  rw [← eM_2] at w_M_2
  refine lv_aload_n hx hb dX11_close_266 rfl (lv_at hl 0 rfl) ?_
  refine g_iconst X dX11_close_267 ?_
  obtain ⟨M_3, eM_3, hf⟩ := lt_some hf
  refine g_putz X w_M_2 fp_X11_156 KD_80 FR_80_43 (Or.inl rfl) dX11_close_268 (fun H locs w_M_3 => ?_)
  rw [← eM_3] at w_M_3
  refine lv_iload_n hx hb dX11_close_271 rfl (lv_at hl 1 rfl) ?_
  exact HR v1 M_3 _ _ _ _ (Option.some.inj hf).symm hv1 w_M_3 dX11_close_272
set_option maxRecDepth 100000 in
set_option maxHeartbeats 4000000 in
theorem b_X11_close_j219 (X : CX p s m args c cX11_close 5 RX11 D aC ad sg A H0) {o : Int × Mem} (HR : ∀ (r : Int) (M1 : Mem) (H : Heap) (locs : List Loc) (pc : Nat) (ls : Array Slot), o = (r, M1) → inR r → WS D aC ad A H0 M1 H locs → decode cX11_close pc = .ok (.ireturn, 1) → W p l e rm_X11_close s m args below meth c H locs 0 0 Q (F0 m pc ls [.int (i2 r)])) (v1 : Int) (hv1 : inR v1) (M : Mem) (hf : f_X11_close_j219 v1 M = some o) {H : Heap} {locs : List Loc} {ls : Array Slot} (hl : lv_has ls 5 [(0, .ref (ad 80)), (1, .int (i2 v1))]) (w : WS D aC ad A H0 M H locs) : W p l e rm_X11_close s m args below meth c H locs 0 0 Q (F0 m 219 ls []) := by
  have hx := X.1.1
  have hb := X.1.2.1
  unfold f_X11_close_j219 at hf
  refine g_iconst X dX11_close_219 ?_
  refine g_istn (v := 0) (lv' := [(2, .int (i2 0)), (0, .ref (ad 80)), (1, .int (i2 v1))]) X rfl dX11_close_220 rfl hl (by decide) rfl (fun ls hl => ?_)
  obtain ⟨q, hq, h1⟩ := obn_some hf
  exact l_X11_close_221 X v1 hv1 (out := q) (fun y2 M1 H locs ls eq hy2 hl w => b_X11_close_j256 X  HR v1 hv1 M1 (by subst eq; exact h1) (lv_sub hl [0, 1] rfl) w)  FU 0 M hq (inL rfl) (lv_sub hl [1, 2, 0] rfl) w
set_option maxRecDepth 100000 in
set_option maxHeartbeats 4000000 in
theorem b_X11_close_0 (X : CX p s m args c cX11_close 5 RX11 D aC ad sg A H0) {o : Int × Mem} (HR : ∀ (r : Int) (M1 : Mem) (H : Heap) (locs : List Loc) (pc : Nat) (ls : Array Slot), o = (r, M1) → inR r → WS D aC ad A H0 M1 H locs → decode cX11_close pc = .ok (.ireturn, 1) → W p l e rm_X11_close s m args below meth c H locs 0 0 Q (F0 m pc ls [.int (i2 r)])) (M : Mem) (hf : f_X11_close M = some o) {H : Heap} {locs : List Loc} {ls : Array Slot} (hl : lv_has ls 5 [(0, .ref (ad 80))]) (w : WS D aC ad A H0 M H locs) : W p l e rm_X11_close s m args below meth c H locs 0 0 Q (F0 m 0 ls []) := by
  have hx := X.1.1
  have hb := X.1.2.1
  unfold f_X11_close at hf
  refine lv_aload_n hx hb dX11_close_0 rfl (lv_at hl 0 rfl) ?_
  refine g_iconst X dX11_close_1 ?_
  obtain ⟨M_2, eM_2, hf⟩ := lt_some hf
  refine g_puti X w fp_X11_139 KD_80 FR_80_0 (inL rfl) dX11_close_2 (fun H locs w_M_2 => ?_)
  rw [← eM_2] at w_M_2
  refine lv_aload_n hx hb dX11_close_5 rfl (lv_at hl 0 rfl) ?_
  obtain ⟨r, hc, hf⟩ := obn_some hf
  refine g_cvi (As := []) (rest := []) X w_M_2 (k_X11_listed X.2.2.1  w_M_2.2.2 hc) lk_X11_384 cl_11 KD_80 ⟨rfl, rfl⟩ ⟨nle rfl, nle rfl⟩ ⟨nle rfl, nle rfl⟩ hl.1 rfl (nle rfl) dX11_close_6 (fun hr H locs w_M_2 => ?_)
  refine g_if_ne (tgt := 14) X hr dX11_close_9 (by decide) (fun cd => ?_) (fun cd => ?_)
  · replace hf := ite_f cd hf
    refine lv_aload_n hx hb dX11_close_14 rfl (lv_at hl 0 rfl) ?_
    obtain ⟨M_3, hc, hf⟩ := obn_some hf
    refine g_cvv (As := []) (rest := []) X w_M_2 (k_X11_looks X.2.2.1  w_M_2.2.2 hc) lk_X11_381 cl_11 KD_80 ⟨rfl, rfl⟩ ⟨nle rfl, nle rfl⟩ ⟨nle rfl, nle rfl⟩ hl.1 rfl (nle rfl) dX11_close_15 (fun H locs w_M_3 => ?_)
    refine g_iconst X dX11_close_18 ?_
    refine g_istn (v := 0) (lv' := [(1, .int (i2 0)), (0, .ref (ad 80))]) X rfl dX11_close_19 rfl hl (by decide) rfl (fun ls hl => ?_)
    refine g_iconst X dX11_close_20 ?_
    refine g_istn (v := 0) (lv' := [(2, .int (i2 0)), (1, .int (i2 0)), (0, .ref (ad 80))]) X rfl dX11_close_21 rfl hl (by decide) rfl (fun ls hl => ?_)
    obtain ⟨q, hq, h1⟩ := obn_some hf
    exact l_X11_close_22 X  (out := q) (fun y1 y2 M1 H locs ls eq hy1 hy2 hl w => b_X11_close_j219 X  HR y1 hy1 M1 (by subst eq; exact h1) (lv_sub hl [0, 1] rfl) w)  FU 0 0 M_3 hq (inL rfl) (inL rfl) (lv_sub hl [2, 1, 0] rfl) w_M_3
  · replace hf := ite_t cd hf
    refine g_iconst X dX11_close_12 ?_
    exact HR (-1) M_2 _ _ _ _ (Option.some.inj hf).symm (inL rfl) w_M_2 dX11_close_13
set_option maxRecDepth 100000 in
set_option maxHeartbeats 4000000 in
theorem k_X11_close {l : Launch} {D : va_G} {aC : Nat → ClassId} {ad : Nat → Nat} {sg : SG} (hi : Inj ad)  {M : Mem} (hM : inM M) {r : Int} {M' : Mem} (hf : f_X11_close M = some (r, M')) : MetI l D aC ad sg yX11_close cX11_close 5 (some .int) rm_X11_close 0 0 [.ref (ad 80)] M r M' := by
  refine MetI.ofI (by decide +kernel) (nle rfl) hi hM (fun p e s m args below meth c Q H0 ls X hl w hret => ?_)
  exact b_X11_close_0 X  (fun r1 M1 H locs pc ls eo hP w dg => by cases eo; exact hret H locs pc ls hP w dg) M hf hl w
set_option maxRecDepth 100000 in
set_option maxHeartbeats 4000000 in
theorem b_X11_regret_0 (X : CX p s m args c cX11_regret 3 RX11 D aC ad sg A H0) {o : Int × Mem} (HR : ∀ (r : Int) (M1 : Mem) (H : Heap) (locs : List Loc) (pc : Nat) (ls : Array Slot), o = (r, M1) → inR r → WS D aC ad A H0 M1 H locs → decode cX11_regret pc = .ok (.ireturn, 1) → W p l e rm_X11_regret s m args below meth c H locs 0 0 Q (F0 m pc ls [.int (i2 r)])) (p1 : Int) (hp1 : inR p1) (p2 : Int) (hp2 : inR p2) (M : Mem) (hf : f_X11_regret p1 p2 M = some o) {H : Heap} {locs : List Loc} {ls : Array Slot} (hl : lv_has ls 3 [(0, .ref (ad 80)), (1, .int (i2 p1)), (2, .int (i2 p2))]) (w : WS D aC ad A H0 M H locs) : W p l e rm_X11_regret s m args below meth c H locs 0 0 Q (F0 m 0 ls []) := by
  have hx := X.1.1
  have hb := X.1.2.1
  unfold f_X11_regret at hf
  refine lv_aload_n hx hb dX11_regret_0 rfl (lv_at hl 0 rfl) ?_
  refine g_iconst X dX11_regret_1 ?_
  obtain ⟨M_2, eM_2, hf⟩ := lt_some hf
  refine g_puti X w fp_X11_139 KD_80 FR_80_0 (inL rfl) dX11_regret_2 (fun H locs w_M_2 => ?_)
  rw [← eM_2] at w_M_2
  refine lv_aload_n hx hb dX11_regret_5 rfl (lv_at hl 0 rfl) ?_
  refine lv_iload_n hx hb dX11_regret_6 rfl (lv_at hl 1 rfl) ?_
  refine lv_iload_n hx hb dX11_regret_7 rfl (lv_at hl 2 rfl) ?_
  obtain ⟨r, hc, hf⟩ := obn_some hf
  refine g_cvi (As := [.int (i2 p1), .int (i2 p2)]) (rest := []) X w_M_2 (k_X11_areTwo X.2.2.1 p1 hp1 p2 hp2 w_M_2.2.2 hc) lk_X11_160 cl_11 KD_80 ⟨rfl, rfl⟩ ⟨nle rfl, nle rfl⟩ ⟨nle rfl, nle rfl⟩ hl.1 rfl (nle rfl) dX11_regret_8 (fun hr H locs w_M_2 => ?_)
  refine g_if_eq (tgt := 28) X hr dX11_regret_11 (by decide) (fun cd => ?_) (fun cd => ?_)
  · replace hf := ite_t cd hf
    refine g_iconst X dX11_regret_28 ?_
    exact HR (-1) M_2 _ _ _ _ (Option.some.inj hf).symm (inL rfl) w_M_2 dX11_regret_29
  · replace hf := ite_f cd hf
    refine lv_aload_n hx hb dX11_regret_14 rfl (lv_at hl 0 rfl) ?_
    refine g_getr X w_M_2 fg_X11_28 KD_80 FR_80_8 dX11_regret_15 ?_
    refine g_bipush X dX11_regret_18 (by decide) ?_
    refine lv_iload_n hx hb dX11_regret_20 rfl (lv_at hl 1 rfl) ?_
    refine g_imul X dX11_regret_21 ?_
    refine lv_iload_n hx hb dX11_regret_22 rfl (lv_at hl 2 rfl) ?_
    refine g_iadd X dX11_regret_23 ?_
    obtain ⟨hg, hf⟩ := gd_some hf
    refine g_iald X w_M_2 KD_87 (inR_wrap _) hg dX11_regret_24 ?_
    refine lv_goto (tgt := 29) hx hb dX11_regret_25 (by decide) ?_
    exact HR (M_2 87 (wrap ((wrap (14 * p1)) + p2)).toNat) M_2 _ _ _ _ (Option.some.inj hf).symm (w_M_2.2.2 _ _) w_M_2 dX11_regret_29
set_option maxRecDepth 100000 in
set_option maxHeartbeats 4000000 in
theorem k_X11_regret {l : Launch} {D : va_G} {aC : Nat → ClassId} {ad : Nat → Nat} {sg : SG} (hi : Inj ad) (p1 : Int) (hp1 : inR p1) (p2 : Int) (hp2 : inR p2) {M : Mem} (hM : inM M) {r : Int} {M' : Mem} (hf : f_X11_regret p1 p2 M = some (r, M')) : MetI l D aC ad sg yX11_regret cX11_regret 3 (some .int) rm_X11_regret 0 0 [.ref (ad 80), .int (i2 p1), .int (i2 p2)] M r M' := by
  refine MetI.ofI (by decide +kernel) (nle rfl) hi hM (fun p e s m args below meth c Q H0 ls X hl w hret => ?_)
  exact b_X11_regret_0 X  (fun r1 M1 H locs pc ls eo hP w dg => by cases eo; exact hret H locs pc ls hP w dg) p1 hp1 p2 hp2 M hf hl w
set_option maxRecDepth 100000 in
set_option maxHeartbeats 4000000 in
theorem b_X11_scaled_0 (X : CX p s m args c cX11_scaled 5 RX11 D aC ad sg A H0) {o : Int × Mem} (HR : ∀ (r : Int) (M1 : Mem) (H : Heap) (locs : List Loc) (pc : Nat) (ls : Array Slot), o = (r, M1) → inR r → WS D aC ad A H0 M1 H locs → decode cX11_scaled pc = .ok (.ireturn, 1) → W p l e rm_X11_scaled s m args below meth c H locs 0 0 Q (F0 m pc ls [.int (i2 r)])) (p1 : Int) (hp1 : inR p1) (p2 : Int) (hp2 : inR p2) (p3 : Int) (hp3 : inR p3) (p4 : Int) (hp4 : inR p4) (M : Mem) (hf : f_X11_scaled p1 p2 p3 p4 M = some o) {H : Heap} {locs : List Loc} {ls : Array Slot} (hl : lv_has ls 5 [(0, .ref (ad 80)), (1, .int (i2 p1)), (2, .int (i2 p2)), (3, .int (i2 p3)), (4, .int (i2 p4))]) (w : WS D aC ad A H0 M H locs) : W p l e rm_X11_scaled s m args below meth c H locs 0 0 Q (F0 m 0 ls []) := by
  have hx := X.1.1
  have hb := X.1.2.1
  unfold f_X11_scaled at hf
  refine lv_aload_n hx hb dX11_scaled_0 rfl (lv_at hl 0 rfl) ?_
  refine g_iconst X dX11_scaled_1 ?_
  obtain ⟨M_2, eM_2, hf⟩ := lt_some hf
  refine g_puti X w fp_X11_139 KD_80 FR_80_0 (inL rfl) dX11_scaled_2 (fun H locs w_M_2 => ?_)
  rw [← eM_2] at w_M_2
  refine lv_iload_n hx hb dX11_scaled_5 rfl (lv_at hl 1 rfl) ?_
  refine g_iconst X dX11_scaled_6 ?_
  refine g_iconst X dX11_scaled_7 ?_
  obtain ⟨r, hc, hf⟩ := obn_some hf
  refine g_csi (As := [.int (i2 p1), .int (i2 (-1)), .int (i2 3)]) (rest := []) X w_M_2 (k_X11_within X.2.2.1 p1 hp1 (-1) (inL rfl) 3 (inL rfl) w_M_2.2.2 hc) lk_X11_145 ⟨rfl, rfl⟩ ⟨nle rfl, nle rfl⟩ ⟨nle rfl, nle rfl⟩ hl.1 rfl (nle rfl) dX11_scaled_8 (fun hr H locs w_M_2 => ?_)
  refine g_if_eq (tgt := 44) X hr dX11_scaled_11 (by decide) (fun cd => ?_) (fun cd => ?_)
  · replace hf := ite_t cd hf
    refine g_iconst X dX11_scaled_44 ?_
    exact HR (-1) M_2 _ _ _ _ (Option.some.inj hf).symm (inL rfl) w_M_2 dX11_scaled_45
  · replace hf := ite_f cd hf
    refine lv_aload_n hx hb dX11_scaled_14 rfl (lv_at hl 0 rfl) ?_
    refine lv_iload_n hx hb dX11_scaled_15 rfl (lv_at hl 2 rfl) ?_
    obtain ⟨r_2, hc, hf⟩ := obn_some hf
    refine g_cvi (As := [.int (i2 p2)]) (rest := []) X w_M_2 (k_X11_isChild X.2.2.1 p2 hp2 w_M_2.2.2 hc) lk_X11_149 cl_11 KD_80 ⟨rfl, rfl⟩ ⟨nle rfl, nle rfl⟩ ⟨nle rfl, nle rfl⟩ hl.1 rfl (nle rfl) dX11_scaled_16 (fun hr_2 H locs w_M_2 => ?_)
    refine g_if_eq (tgt := 44) X hr_2 dX11_scaled_19 (by decide) (fun cd_2 => ?_) (fun cd_2 => ?_)
    · replace hf := ite_t cd_2 hf
      refine g_iconst X dX11_scaled_44 ?_
      exact HR (-1) M_2 _ _ _ _ (Option.some.inj hf).symm (inL rfl) w_M_2 dX11_scaled_45
    · replace hf := ite_f cd_2 hf
      refine lv_iload_n hx hb dX11_scaled_22 rfl (lv_at hl 3 rfl) ?_
      refine g_iconst X dX11_scaled_23 ?_
      refine g_iconst X dX11_scaled_24 ?_
      obtain ⟨r_3, hc, hf⟩ := obn_some hf
      refine g_csi (As := [.int (i2 p3), .int (i2 0), .int (i2 1)]) (rest := []) X w_M_2 (k_X11_within X.2.2.1 p3 hp3 0 (inL rfl) 1 (inL rfl) w_M_2.2.2 hc) lk_X11_145 ⟨rfl, rfl⟩ ⟨nle rfl, nle rfl⟩ ⟨nle rfl, nle rfl⟩ hl.1 rfl (nle rfl) dX11_scaled_25 (fun hr_3 H locs w_M_2 => ?_)
      refine g_if_eq (tgt := 44) X hr_3 dX11_scaled_28 (by decide) (fun cd_3 => ?_) (fun cd_3 => ?_)
      · replace hf := ite_t cd_3 hf
        refine g_iconst X dX11_scaled_44 ?_
        exact HR (-1) M_2 _ _ _ _ (Option.some.inj hf).symm (inL rfl) w_M_2 dX11_scaled_45
      · replace hf := ite_f cd_3 hf
        refine lv_iload hx hb dX11_scaled_31 (lv_at hl 4 rfl) ?_
        refine g_iconst X dX11_scaled_33 ?_
        refine lv_aload_n hx hb dX11_scaled_34 rfl (lv_at hl 0 rfl) ?_
        refine g_geti X w_M_2 fg_X11_153 KD_80 FR_80_14 dX11_scaled_35 ?_
        obtain ⟨r_4, hc, hf⟩ := obn_some hf
        refine g_csi (As := [.int (i2 p4), .int (i2 0), .int (i2 (M_2 80 14))]) (rest := []) X w_M_2 (k_X11_within X.2.2.1 p4 hp4 0 (inL rfl) (M_2 80 14) (w_M_2.2.2 _ _) w_M_2.2.2 hc) lk_X11_145 ⟨rfl, rfl⟩ ⟨nle rfl, nle rfl⟩ ⟨nle rfl, nle rfl⟩ hl.1 rfl (nle rfl) dX11_scaled_38 (fun hr_4 H locs w_M_2 => ?_)
        refine g_if_ne (tgt := 46) X hr_4 dX11_scaled_41 (by decide) (fun cd_4 => ?_) (fun cd_4 => ?_)
        · replace hf := ite_f cd_4 hf
          refine lv_iload_n hx hb dX11_scaled_46 rfl (lv_at hl 1 rfl) ?_
          refine g_iconst X dX11_scaled_47 ?_
          refine g_icmp_ne (tgt := 62) X hp1 (inL rfl) dX11_scaled_48 (by decide) (fun cd_5 => ?_) (fun cd_5 => ?_)
          · replace hf := ite_f cd_5 hf
            refine lv_aload_n hx hb dX11_scaled_62 rfl (lv_at hl 0 rfl) ?_
            refine lv_iload_n hx hb dX11_scaled_63 rfl (lv_at hl 1 rfl) ?_
            refine lv_iload_n hx hb dX11_scaled_64 rfl (lv_at hl 2 rfl) ?_
            refine lv_iload_n hx hb dX11_scaled_65 rfl (lv_at hl 3 rfl) ?_
            refine lv_iload hx hb dX11_scaled_66 (lv_at hl 4 rfl) ?_
            obtain ⟨r_5, hc, hf⟩ := obn_some hf
            refine g_cvi (As := [.int (i2 p1), .int (i2 p2), .int (i2 p3), .int (i2 p4)]) (rest := []) X w_M_2 (k_X11_scaledOf X.2.2.1 p1 hp1 p2 hp2 p3 hp3 p4 hp4 w_M_2.2.2 hc) lk_X11_175 cl_11 KD_80 ⟨rfl, rfl⟩ ⟨nle rfl, nle rfl⟩ ⟨nle rfl, nle rfl⟩ hl.1 rfl (nle rfl) dX11_scaled_68 (fun hr_5 H locs w_M_2 => ?_)
            exact HR r_5 M_2 _ _ _ _ (Option.some.inj hf).symm hr_5 w_M_2 dX11_scaled_71
          · replace hf := ite_t cd_5 hf
            refine lv_aload_n hx hb dX11_scaled_51 rfl (lv_at hl 0 rfl) ?_
            refine lv_iload_n hx hb dX11_scaled_52 rfl (lv_at hl 2 rfl) ?_
            refine lv_iload_n hx hb dX11_scaled_53 rfl (lv_at hl 3 rfl) ?_
            refine lv_iload hx hb dX11_scaled_54 (lv_at hl 4 rfl) ?_
            obtain ⟨r_6, hc, hf⟩ := obn_some hf
            refine g_cvi (As := [.int (i2 p2), .int (i2 p3), .int (i2 p4)]) (rest := []) X w_M_2 (k_X11_together X.2.2.1 p2 hp2 p3 hp3 p4 hp4 w_M_2.2.2 hc) lk_X11_178 cl_11 KD_80 ⟨rfl, rfl⟩ ⟨nle rfl, nle rfl⟩ ⟨nle rfl, nle rfl⟩ hl.1 rfl (nle rfl) dX11_scaled_56 (fun hr_6 H locs w_M_2 => ?_)
            refine lv_goto (tgt := 71) hx hb dX11_scaled_59 (by decide) ?_
            exact HR r_6 M_2 _ _ _ _ (Option.some.inj hf).symm hr_6 w_M_2 dX11_scaled_71
        · replace hf := ite_t cd_4 hf
          refine g_iconst X dX11_scaled_44 ?_
          exact HR (-1) M_2 _ _ _ _ (Option.some.inj hf).symm (inL rfl) w_M_2 dX11_scaled_45
set_option maxRecDepth 100000 in
set_option maxHeartbeats 4000000 in
theorem k_X11_scaled {l : Launch} {D : va_G} {aC : Nat → ClassId} {ad : Nat → Nat} {sg : SG} (hi : Inj ad) (p1 : Int) (hp1 : inR p1) (p2 : Int) (hp2 : inR p2) (p3 : Int) (hp3 : inR p3) (p4 : Int) (hp4 : inR p4) {M : Mem} (hM : inM M) {r : Int} {M' : Mem} (hf : f_X11_scaled p1 p2 p3 p4 M = some (r, M')) : MetI l D aC ad sg yX11_scaled cX11_scaled 5 (some .int) rm_X11_scaled 0 0 [.ref (ad 80), .int (i2 p1), .int (i2 p2), .int (i2 p3), .int (i2 p4)] M r M' := by
  refine MetI.ofI (by decide +kernel) (nle rfl) hi hM (fun p e s m args below meth c Q H0 ls X hl w hret => ?_)
  exact b_X11_scaled_0 X  (fun r1 M1 H locs pc ls eo hP w dg => by cases eo; exact hret H locs pc ls hP w dg) p1 hp1 p2 hp2 p3 hp3 p4 hp4 M hf hl w
set_option maxRecDepth 100000 in
set_option maxHeartbeats 4000000 in
theorem b_X11_many_s5 (X : CX p s m args c cX11_many 5 RX11 D aC ad sg A H0) (p1 : Nat) (hp1 : KD[p1]? = some (.inr (1, aln p1))) (v2 : Int) (hv2 : inR v2) {M : Mem} {o : (Int × Int) ⊕ (Int × Int)} (HC : ∀ (y3 : Int) (y4 : Int) (H : Heap) (locs : List Loc) (ls : Array Slot), o = .inl (y3, y4) → inR y3 → inR y4 → lv_has ls 5 [(0, .ref (ad 80)), (1, .ref (ad p1)), (2, .int (i2 v2)), (3, .int (i2 y3)), (4, .int (i2 y4))] → WS D aC ad A H0 M H locs → W p l e rm_X11_many s m args below meth c H locs 0 0 Q (F0 m 5 ls [])) (HE : ∀ (y3 : Int) (y4 : Int) (H : Heap) (locs : List Loc) (ls : Array Slot), o = .inr (y3, y4) → inR y3 → inR y4 → lv_has ls 5 [(0, .ref (ad 80)), (1, .ref (ad p1)), (2, .int (i2 v2)), (3, .int (i2 y3)), (4, .int (i2 y4))] → WS D aC ad A H0 M H locs → W p l e rm_X11_many s m args below meth c H locs 0 0 Q (F0 m 40 ls [])) (v3 : Int) (hv3 : inR v3) (v4 : Int) (hv4 : inR v4) (hf : f_X11_many_s5 p1 v2 M v3 v4 = some o) {H : Heap} {locs : List Loc} {ls : Array Slot} (hl : lv_has ls 5 [(0, .ref (ad 80)), (1, .ref (ad p1)), (2, .int (i2 v2)), (3, .int (i2 v3)), (4, .int (i2 v4))]) (w : WS D aC ad A H0 M H locs) : W p l e rm_X11_many s m args below meth c H locs 0 0 Q (F0 m 5 ls []) := by
  have hx := X.1.1
  have hb := X.1.2.1
  unfold f_X11_many_s5 at hf
  refine lv_iload hx hb dX11_many_5 (lv_at hl 4 rfl) ?_
  refine lv_aload_n hx hb dX11_many_7 rfl (lv_at hl 0 rfl) ?_
  refine g_geti X w fg_X11_142 KD_80 FR_80_1 dX11_many_8 ?_
  refine g_icmp_ge (tgt := 40) X hv4 (w.2.2 _ _) dX11_many_11 (by decide) (fun cd => ?_) (fun cd => ?_)
  · replace hf := ite_t cd hf
    exact HE v3 v4 _ _ _ (Option.some.inj hf).symm hv3 hv4 hl w
  · replace hf := ite_f cd hf
    refine lv_iload_n hx hb dX11_many_14 rfl (lv_at hl 3 rfl) ?_
    refine lv_aload_n hx hb dX11_many_15 rfl (lv_at hl 1 rfl) ?_
    refine g_bipush X dX11_many_16 (by decide) ?_
    refine lv_iload_n hx hb dX11_many_18 rfl (lv_at hl 2 rfl) ?_
    refine g_imul X dX11_many_19 ?_
    refine lv_iload hx hb dX11_many_20 (lv_at hl 4 rfl) ?_
    refine g_iadd X dX11_many_22 ?_
    obtain ⟨hg, hf⟩ := gd_some hf
    refine g_zald X w hp1 (inR_wrap _) hg dX11_many_23 ?_
    refine g_if_eq (tgt := 31) X (w.2.2 _ _) dX11_many_24 (by decide) (fun cd_2 => ?_) (fun cd_2 => ?_)
    · replace hf := ite_t cd_2 hf
      refine g_iconst X dX11_many_31 ?_
      refine g_iadd X dX11_many_32 ?_
      obtain ⟨v3_2, ev3_2, hf⟩ := lt_some hf
      have hv3_2 : inR v3_2 := inR_of ev3_2 (inR_wrap _)
      refine g_istn (v := v3_2) (lv' := [(3, .int (i2 v3_2)), (0, .ref (ad 80)), (1, .ref (ad p1)), (2, .int (i2 v2)), (4, .int (i2 v4))]) X ev3_2 dX11_many_33 rfl hl (by decide) rfl (fun ls hl => ?_)
      obtain ⟨v4_2, ev4_2, hf⟩ := lt_some hf
      have hv4_2 : inR v4_2 := inR_of ev4_2 (inR_wrap _)
      refine lv_iinc (v := i2 v4_2) (lv' := [(4, .int (i2 v4_2)), (3, .int (i2 v3_2)), (0, .ref (ad 80)), (1, .ref (ad p1)), (2, .int (i2 v2))]) hx hb dX11_many_34 hl (k := 4) rfl (by rw [ev4_2]; exact i2_add _ _) (by decide) rfl (fun ls hl => ?_)
      refine lv_goto (tgt := 5) hx hb dX11_many_37 (by decide) ?_
      exact HC v3_2 v4_2 _ _ _ (Option.some.inj hf).symm hv3_2 hv4_2 (lv_sub hl [2, 3, 4, 1, 0] rfl) w
    · replace hf := ite_f cd_2 hf
      refine g_iconst X dX11_many_27 ?_
      refine lv_goto (tgt := 32) hx hb dX11_many_28 (by decide) ?_
      refine g_iadd X dX11_many_32 ?_
      obtain ⟨v3_3, ev3_3, hf⟩ := lt_some hf
      have hv3_3 : inR v3_3 := inR_of ev3_3 (inR_wrap _)
      refine g_istn (v := v3_3) (lv' := [(3, .int (i2 v3_3)), (0, .ref (ad 80)), (1, .ref (ad p1)), (2, .int (i2 v2)), (4, .int (i2 v4))]) X ev3_3 dX11_many_33 rfl hl (by decide) rfl (fun ls hl => ?_)
      obtain ⟨v4_3, ev4_3, hf⟩ := lt_some hf
      have hv4_3 : inR v4_3 := inR_of ev4_3 (inR_wrap _)
      refine lv_iinc (v := i2 v4_3) (lv' := [(4, .int (i2 v4_3)), (3, .int (i2 v3_3)), (0, .ref (ad 80)), (1, .ref (ad p1)), (2, .int (i2 v2))]) hx hb dX11_many_34 hl (k := 4) rfl (by rw [ev4_3]; exact i2_add _ _) (by decide) rfl (fun ls hl => ?_)
      refine lv_goto (tgt := 5) hx hb dX11_many_37 (by decide) ?_
      exact HC v3_3 v4_3 _ _ _ (Option.some.inj hf).symm hv3_3 hv4_3 (lv_sub hl [2, 3, 4, 1, 0] rfl) w
set_option maxRecDepth 100000 in
set_option maxHeartbeats 4000000 in
theorem l_X11_many_5 (X : CX p s m args c cX11_many 5 RX11 D aC ad sg A H0) (p1 : Nat) (hp1 : KD[p1]? = some (.inr (1, aln p1))) (v2 : Int) (hv2 : inR v2) {M : Mem} {out : Int × Int} (HE : ∀ (y3 : Int) (y4 : Int) (H : Heap) (locs : List Loc) (ls : Array Slot), out = (y3, y4) → inR y3 → inR y4 → lv_has ls 5 [(0, .ref (ad 80)), (1, .ref (ad p1)), (2, .int (i2 v2)), (3, .int (i2 y3)), (4, .int (i2 y4))] → WS D aC ad A H0 M H locs → W p l e rm_X11_many s m args below meth c H locs 0 0 Q (F0 m 40 ls [])) : ∀ (n : Nat) (v3 : Int) (v4 : Int), whl (fun s => f_X11_many_s5 p1 v2 M s.1 s.2) n (v3, v4) = some out → inR v3 → inR v4 → ∀ {H : Heap} {locs : List Loc} {ls : Array Slot}, lv_has ls 5 [(0, .ref (ad 80)), (1, .ref (ad p1)), (2, .int (i2 v2)), (3, .int (i2 v3)), (4, .int (i2 v4))] → WS D aC ad A H0 M H locs → W p l e rm_X11_many s m args below meth c H locs 0 0 Q (F0 m 5 ls []) := by
  intro n
  induction n with
  | zero => intro v3 v4 hf; exact (whl_zero hf).elim
  | succ n ih =>
    intro v3 v4 hf hv3 hv4 H locs ls hl w
    obtain ⟨o, hf, hk1, hk2⟩ := whl_step hf
    exact b_X11_many_s5 X p1 hp1 v2 hv2 (fun y3 y4 H locs ls eo hy3 hy4 hl w => ih y3 y4 (hk1 _ eo) hy3 hy4 hl w) (fun y3 y4 H locs ls eo hy3 hy4 hl w => HE y3 y4 H locs ls (hk2 _ eo).symm hy3 hy4 hl w) v3 hv3 v4 hv4 hf hl w
set_option maxRecDepth 100000 in
set_option maxHeartbeats 4000000 in
theorem b_X11_many_j40 (X : CX p s m args c cX11_many 5 RX11 D aC ad sg A H0) (p1 : Nat) (hp1 : KD[p1]? = some (.inr (1, aln p1))) {M : Mem} {o : Int} (HR : ∀ (r : Int) (H : Heap) (locs : List Loc) (pc : Nat) (ls : Array Slot), o = r → inR r → WS D aC ad A H0 M H locs → decode cX11_many pc = .ok (.ireturn, 1) → W p l e rm_X11_many s m args below meth c H locs 0 0 Q (F0 m pc ls [.int (i2 r)])) (v3 : Int) (hv3 : inR v3) (hf : f_X11_many_j40 p1 v3 M = some o) {H : Heap} {locs : List Loc} {ls : Array Slot} (hl : lv_has ls 5 [(3, .int (i2 v3))]) (w : WS D aC ad A H0 M H locs) : W p l e rm_X11_many s m args below meth c H locs 0 0 Q (F0 m 40 ls []) := by
  have hx := X.1.1
  have hb := X.1.2.1
  unfold f_X11_many_j40 at hf
  refine lv_iload_n hx hb dX11_many_40 rfl (lv_at hl 0 rfl) ?_
  exact HR v3 _ _ _ _ (Option.some.inj hf).symm hv3 w dX11_many_41
set_option maxRecDepth 100000 in
set_option maxHeartbeats 4000000 in
theorem b_X11_many_0 (X : CX p s m args c cX11_many 5 RX11 D aC ad sg A H0) (p1 : Nat) (hp1 : KD[p1]? = some (.inr (1, aln p1))) {M : Mem} {o : Int} (HR : ∀ (r : Int) (H : Heap) (locs : List Loc) (pc : Nat) (ls : Array Slot), o = r → inR r → WS D aC ad A H0 M H locs → decode cX11_many pc = .ok (.ireturn, 1) → W p l e rm_X11_many s m args below meth c H locs 0 0 Q (F0 m pc ls [.int (i2 r)])) (p2 : Int) (hp2 : inR p2) (hf : f_X11_many p1 p2 M = some o) {H : Heap} {locs : List Loc} {ls : Array Slot} (hl : lv_has ls 5 [(0, .ref (ad 80)), (1, .ref (ad p1)), (2, .int (i2 p2))]) (w : WS D aC ad A H0 M H locs) : W p l e rm_X11_many s m args below meth c H locs 0 0 Q (F0 m 0 ls []) := by
  have hx := X.1.1
  have hb := X.1.2.1
  unfold f_X11_many at hf
  refine g_iconst X dX11_many_0 ?_
  refine g_istn (v := 0) (lv' := [(3, .int (i2 0)), (0, .ref (ad 80)), (1, .ref (ad p1)), (2, .int (i2 p2))]) X rfl dX11_many_1 rfl hl (by decide) rfl (fun ls hl => ?_)
  refine g_iconst X dX11_many_2 ?_
  refine g_ist (v := 0) (lv' := [(4, .int (i2 0)), (3, .int (i2 0)), (0, .ref (ad 80)), (1, .ref (ad p1)), (2, .int (i2 p2))]) X rfl dX11_many_3 hl (by decide) rfl (fun ls hl => ?_)
  obtain ⟨q, hq, h1⟩ := obn_some hf
  exact l_X11_many_5 X p1 hp1 p2 hp2 (out := q) (fun y3 y4 H locs ls eq hy3 hy4 hl w => b_X11_many_j40 X p1 hp1 HR y3 hy3 (by subst eq; exact h1) (lv_sub hl [3] rfl) w)  FU 0 0 hq (inL rfl) (inL rfl) (lv_sub hl [2, 3, 4, 1, 0] rfl) w
set_option maxRecDepth 100000 in
set_option maxHeartbeats 4000000 in
theorem k_X11_many {l : Launch} {D : va_G} {aC : Nat → ClassId} {ad : Nat → Nat} {sg : SG} (hi : Inj ad) (p1 : Nat) (hp1 : KD[p1]? = some (.inr (1, aln p1))) (p2 : Int) (hp2 : inR p2) {M : Mem} (hM : inM M) {r : Int} (hf : f_X11_many p1 p2 M = some r) : MetI l D aC ad sg yX11_many cX11_many 5 (some .int) rm_X11_many 0 0 [.ref (ad 80), .ref (ad p1), .int (i2 p2)] M r M := by
  refine MetI.ofI (by decide +kernel) (nle rfl) hi hM (fun p e s m args below meth c Q H0 ls X hl w hret => ?_)
  exact b_X11_many_0 X p1 hp1 (fun r1 H locs pc ls eo hP w dg => by cases eo; exact hret H locs pc ls hP w dg) p2 hp2 hf hl w
set_option maxRecDepth 100000 in
set_option maxHeartbeats 4000000 in
theorem b_X11_of_j34 (X : CX p s m args c cX11_of 4 RX11 D aC ad sg A H0) {o : Int × Mem} (HR : ∀ (r : Int) (M1 : Mem) (H : Heap) (locs : List Loc) (pc : Nat) (ls : Array Slot), o = (r, M1) → inR r → WS D aC ad A H0 M1 H locs → decode cX11_of pc = .ok (.ireturn, 1) → W p l e rm_X11_of s m args below meth c H locs 0 0 Q (F0 m pc ls [.int (i2 r)])) (v1 : Int) (hv1 : inR v1) (v2 : Int) (hv2 : inR v2) (v3 : Int) (hv3 : inR v3) (s0 : Int) (hs0 : inR s0) (M : Mem) (hf : f_X11_of_j34 v1 v2 v3 s0 M = some o) {H : Heap} {locs : List Loc} {ls : Array Slot} (hl : lv_has ls 4 [(0, .ref (ad 80)), (1, .int (i2 v1)), (2, .int (i2 v2)), (3, .int (i2 v3))]) (w : WS D aC ad A H0 M H locs) : W p l e rm_X11_of s m args below meth c H locs 0 0 Q (F0 m 34 ls [.int (i2 s0), .ref (ad 80)]) := by
  have hx := X.1.1
  have hb := X.1.2.1
  unfold f_X11_of_j34 at hf
  obtain ⟨M_2, eM_2, hf⟩ := lt_some hf
  refine g_puti X w fp_X11_139 KD_80 FR_80_0 hs0 dX11_of_34 (fun H locs w_M_2 => ?_)
  rw [← eM_2] at w_M_2
  refine lv_iload_n hx hb dX11_of_37 rfl (lv_at hl 3 rfl) ?_
  refine g_if_ne (tgt := 43) X hv3 dX11_of_38 (by decide) (fun cd => ?_) (fun cd => ?_)
  · replace hf := ite_f cd hf
    refine lv_iload_n hx hb dX11_of_43 rfl (lv_at hl 2 rfl) ?_
    by_cases cd_2 : v2 < 0 ∨ 11 < v2
    · replace hf := ite_t cd_2 hf
      refine g_tout (tgt := 189) X hv2 cd_2 dX11_of_44 (by decide) ?_
      refine lv_aload_n hx hb dX11_of_189 rfl (lv_at hl 0 rfl) ?_
      refine g_getr X w_M_2 fg_X11_124 KD_80 FR_80_54 dX11_of_190 ?_
      refine lv_iload_n hx hb dX11_of_193 rfl (lv_at hl 1 rfl) ?_
      obtain ⟨hg, hf⟩ := gd_some hf
      refine g_iald X w_M_2 KD_115 hv1 hg dX11_of_194 ?_
      exact HR (M_2 115 v1.toNat) M_2 _ _ _ _ (Option.some.inj hf).symm (w_M_2.2.2 _ _) w_M_2 dX11_of_195
    · replace hf := ite_f cd_2 hf
      by_cases cd_3 : v2 = 0
      · replace hf := ite_t cd_3 hf
        refine g_tin (tgt := 108) (k := 0) (off := 64) X cd_3 hv2 (by decide) (by decide) (by rfl) dX11_of_44 (by decide) ?_
        refine lv_aload_n hx hb dX11_of_108 rfl (lv_at hl 0 rfl) ?_
        refine g_getr X w_M_2 fg_X11_7 KD_80 FR_80_2 dX11_of_109 ?_
        refine lv_iload_n hx hb dX11_of_112 rfl (lv_at hl 1 rfl) ?_
        obtain ⟨hg_2, hf⟩ := gd_some hf
        refine g_iald X w_M_2 KD_81 hv1 hg_2 dX11_of_113 ?_
        exact HR (M_2 81 v1.toNat) M_2 _ _ _ _ (Option.some.inj hf).symm (w_M_2.2.2 _ _) w_M_2 dX11_of_114
      · replace hf := ite_f cd_3 hf
        by_cases cd_4 : v2 = 1
        · replace hf := ite_t cd_4 hf
          refine g_tin (tgt := 115) (k := 1) (off := 71) X cd_4 hv2 (by decide) (by decide) (by rfl) dX11_of_44 (by decide) ?_
          refine lv_aload_n hx hb dX11_of_115 rfl (lv_at hl 0 rfl) ?_
          refine g_getr X w_M_2 fg_X11_13 KD_80 FR_80_3 dX11_of_116 ?_
          refine lv_iload_n hx hb dX11_of_119 rfl (lv_at hl 1 rfl) ?_
          obtain ⟨hg_3, hf⟩ := gd_some hf
          refine g_iald X w_M_2 KD_82 hv1 hg_3 dX11_of_120 ?_
          exact HR (M_2 82 v1.toNat) M_2 _ _ _ _ (Option.some.inj hf).symm (w_M_2.2.2 _ _) w_M_2 dX11_of_121
        · replace hf := ite_f cd_4 hf
          by_cases cd_5 : v2 = 2
          · replace hf := ite_t cd_5 hf
            refine g_tin (tgt := 122) (k := 2) (off := 78) X cd_5 hv2 (by decide) (by decide) (by rfl) dX11_of_44 (by decide) ?_
            refine lv_aload_n hx hb dX11_of_122 rfl (lv_at hl 0 rfl) ?_
            refine g_getr X w_M_2 fg_X11_19 KD_80 FR_80_5 dX11_of_123 ?_
            refine lv_iload_n hx hb dX11_of_126 rfl (lv_at hl 1 rfl) ?_
            obtain ⟨hg_4, hf⟩ := gd_some hf
            refine g_iald X w_M_2 KD_84 hv1 hg_4 dX11_of_127 ?_
            exact HR (M_2 84 v1.toNat) M_2 _ _ _ _ (Option.some.inj hf).symm (w_M_2.2.2 _ _) w_M_2 dX11_of_128
          · replace hf := ite_f cd_5 hf
            by_cases cd_6 : v2 = 3
            · replace hf := ite_t cd_6 hf
              refine g_tin (tgt := 129) (k := 3) (off := 85) X cd_6 hv2 (by decide) (by decide) (by rfl) dX11_of_44 (by decide) ?_
              refine lv_aload_n hx hb dX11_of_129 rfl (lv_at hl 0 rfl) ?_
              refine g_getr X w_M_2 fg_X11_22 KD_80 FR_80_6 dX11_of_130 ?_
              refine lv_iload_n hx hb dX11_of_133 rfl (lv_at hl 1 rfl) ?_
              obtain ⟨hg_5, hf⟩ := gd_some hf
              refine g_iald X w_M_2 KD_85 hv1 hg_5 dX11_of_134 ?_
              exact HR (M_2 85 v1.toNat) M_2 _ _ _ _ (Option.some.inj hf).symm (w_M_2.2.2 _ _) w_M_2 dX11_of_135
            · replace hf := ite_f cd_6 hf
              by_cases cd_7 : v2 = 4
              · replace hf := ite_t cd_7 hf
                refine g_tin (tgt := 136) (k := 4) (off := 92) X cd_7 hv2 (by decide) (by decide) (by rfl) dX11_of_44 (by decide) ?_
                refine lv_aload_n hx hb dX11_of_136 rfl (lv_at hl 0 rfl) ?_
                refine g_getr X w_M_2 fg_X11_25 KD_80 FR_80_7 dX11_of_137 ?_
                refine g_iconst X dX11_of_140 ?_
                refine lv_iload_n hx hb dX11_of_141 rfl (lv_at hl 1 rfl) ?_
                refine g_imul X dX11_of_142 ?_
                refine lv_iload_n hx hb dX11_of_143 rfl (lv_at hl 2 rfl) ?_
                refine g_iadd X dX11_of_144 ?_
                refine g_iconst X dX11_of_145 ?_
                refine g_isub X dX11_of_146 ?_
                obtain ⟨hg_6, hf⟩ := gd_some hf
                refine g_iald X w_M_2 KD_86 (inR_wrap _) hg_6 dX11_of_147 ?_
                exact HR (M_2 86 (wrap ((wrap ((wrap (3 * v1)) + v2)) - 4)).toNat) M_2 _ _ _ _ (Option.some.inj hf).symm (w_M_2.2.2 _ _) w_M_2 dX11_of_148
              · replace hf := ite_f cd_7 hf
                by_cases cd_8 : v2 = 5
                · replace hf := ite_t cd_8 hf
                  refine g_tin (tgt := 136) (k := 5) (off := 92) X cd_8 hv2 (by decide) (by decide) (by rfl) dX11_of_44 (by decide) ?_
                  refine lv_aload_n hx hb dX11_of_136 rfl (lv_at hl 0 rfl) ?_
                  refine g_getr X w_M_2 fg_X11_25 KD_80 FR_80_7 dX11_of_137 ?_
                  refine g_iconst X dX11_of_140 ?_
                  refine lv_iload_n hx hb dX11_of_141 rfl (lv_at hl 1 rfl) ?_
                  refine g_imul X dX11_of_142 ?_
                  refine lv_iload_n hx hb dX11_of_143 rfl (lv_at hl 2 rfl) ?_
                  refine g_iadd X dX11_of_144 ?_
                  refine g_iconst X dX11_of_145 ?_
                  refine g_isub X dX11_of_146 ?_
                  obtain ⟨hg_7, hf⟩ := gd_some hf
                  refine g_iald X w_M_2 KD_86 (inR_wrap _) hg_7 dX11_of_147 ?_
                  exact HR (M_2 86 (wrap ((wrap ((wrap (3 * v1)) + v2)) - 4)).toNat) M_2 _ _ _ _ (Option.some.inj hf).symm (w_M_2.2.2 _ _) w_M_2 dX11_of_148
                · replace hf := ite_f cd_8 hf
                  by_cases cd_9 : v2 = 6
                  · replace hf := ite_t cd_9 hf
                    refine g_tin (tgt := 136) (k := 6) (off := 92) X cd_9 hv2 (by decide) (by decide) (by rfl) dX11_of_44 (by decide) ?_
                    refine lv_aload_n hx hb dX11_of_136 rfl (lv_at hl 0 rfl) ?_
                    refine g_getr X w_M_2 fg_X11_25 KD_80 FR_80_7 dX11_of_137 ?_
                    refine g_iconst X dX11_of_140 ?_
                    refine lv_iload_n hx hb dX11_of_141 rfl (lv_at hl 1 rfl) ?_
                    refine g_imul X dX11_of_142 ?_
                    refine lv_iload_n hx hb dX11_of_143 rfl (lv_at hl 2 rfl) ?_
                    refine g_iadd X dX11_of_144 ?_
                    refine g_iconst X dX11_of_145 ?_
                    refine g_isub X dX11_of_146 ?_
                    obtain ⟨hg_8, hf⟩ := gd_some hf
                    refine g_iald X w_M_2 KD_86 (inR_wrap _) hg_8 dX11_of_147 ?_
                    exact HR (M_2 86 (wrap ((wrap ((wrap (3 * v1)) + v2)) - 4)).toNat) M_2 _ _ _ _ (Option.some.inj hf).symm (w_M_2.2.2 _ _) w_M_2 dX11_of_148
                  · replace hf := ite_f cd_9 hf
                    by_cases cd_10 : v2 = 7
                    · replace hf := ite_t cd_10 hf
                      refine g_tin (tgt := 149) (k := 7) (off := 105) X cd_10 hv2 (by decide) (by decide) (by rfl) dX11_of_44 (by decide) ?_
                      refine lv_aload_n hx hb dX11_of_149 rfl (lv_at hl 0 rfl) ?_
                      refine g_getr X w_M_2 fg_X11_16 KD_80 FR_80_4 dX11_of_150 ?_
                      refine lv_iload_n hx hb dX11_of_153 rfl (lv_at hl 1 rfl) ?_
                      obtain ⟨hg_9, hf⟩ := gd_some hf
                      refine g_iald X w_M_2 KD_83 hv1 hg_9 dX11_of_154 ?_
                      exact HR (M_2 83 v1.toNat) M_2 _ _ _ _ (Option.some.inj hf).symm (w_M_2.2.2 _ _) w_M_2 dX11_of_155
                    · replace hf := ite_f cd_10 hf
                      by_cases cd_11 : v2 = 8
                      · replace hf := ite_t cd_11 hf
                        refine g_tin (tgt := 156) (k := 8) (off := 112) X cd_11 hv2 (by decide) (by decide) (by rfl) dX11_of_44 (by decide) ?_
                        refine lv_aload_n hx hb dX11_of_156 rfl (lv_at hl 0 rfl) ?_
                        refine lv_aload_n hx hb dX11_of_157 rfl (lv_at hl 0 rfl) ?_
                        refine g_getr X w_M_2 fg_X11_35 KD_80 FR_80_10 dX11_of_158 ?_
                        refine lv_iload_n hx hb dX11_of_161 rfl (lv_at hl 1 rfl) ?_
                        obtain ⟨r, hc, hf⟩ := obn_some hf
                        refine g_cvi (As := [.ref (ad 89), .int (i2 v1)]) (rest := []) X w_M_2 (k_X11_many X.2.2.1 89 KA_89 v1 hv1 w_M_2.2.2 hc) lk_X11_412 cl_11 KD_80 ⟨rfl, rfl⟩ ⟨nle rfl, nle rfl⟩ ⟨nle rfl, nle rfl⟩ hl.1 rfl (nle rfl) dX11_of_162 (fun hr H locs w_M_2 => ?_)
                        exact HR r M_2 _ _ _ _ (Option.some.inj hf).symm hr w_M_2 dX11_of_165
                      · replace hf := ite_f cd_11 hf
                        by_cases cd_12 : v2 = 9
                        · replace hf := ite_t cd_12 hf
                          refine g_tin (tgt := 166) (k := 9) (off := 122) X cd_12 hv2 (by decide) (by decide) (by rfl) dX11_of_44 (by decide) ?_
                          refine lv_aload_n hx hb dX11_of_166 rfl (lv_at hl 0 rfl) ?_
                          refine lv_aload_n hx hb dX11_of_167 rfl (lv_at hl 0 rfl) ?_
                          refine g_getr X w_M_2 fg_X11_31 KD_80 FR_80_9 dX11_of_168 ?_
                          refine lv_iload_n hx hb dX11_of_171 rfl (lv_at hl 1 rfl) ?_
                          obtain ⟨r_2, hc, hf⟩ := obn_some hf
                          refine g_cvi (As := [.ref (ad 88), .int (i2 v1)]) (rest := []) X w_M_2 (k_X11_many X.2.2.1 88 KA_88 v1 hv1 w_M_2.2.2 hc) lk_X11_412 cl_11 KD_80 ⟨rfl, rfl⟩ ⟨nle rfl, nle rfl⟩ ⟨nle rfl, nle rfl⟩ hl.1 rfl (nle rfl) dX11_of_172 (fun hr_2 H locs w_M_2 => ?_)
                          exact HR r_2 M_2 _ _ _ _ (Option.some.inj hf).symm hr_2 w_M_2 dX11_of_175
                        · replace hf := ite_f cd_12 hf
                          by_cases cd_13 : v2 = 10
                          · replace hf := ite_t cd_13 hf
                            refine g_tin (tgt := 176) (k := 10) (off := 132) X cd_13 hv2 (by decide) (by decide) (by rfl) dX11_of_44 (by decide) ?_
                            refine lv_aload_n hx hb dX11_of_176 rfl (lv_at hl 0 rfl) ?_
                            refine lv_iload_n hx hb dX11_of_177 rfl (lv_at hl 1 rfl) ?_
                            obtain ⟨r_3, hc, hf⟩ := obn_some hf
                            refine g_cvi (As := [.int (i2 v1)]) (rest := []) X w_M_2 (k_X11_namedBy X.2.2.1 v1 hv1 w_M_2.2.2 hc) lk_X11_316 cl_11 KD_80 ⟨rfl, rfl⟩ ⟨nle rfl, nle rfl⟩ ⟨nle rfl, nle rfl⟩ hl.1 rfl (nle rfl) dX11_of_178 (fun hr_3 H locs w_M_2 => ?_)
                            exact HR r_3 M_2 _ _ _ _ (Option.some.inj hf).symm hr_3 w_M_2 dX11_of_181
                          · replace hf := ite_f cd_13 hf
                            by_cases cd_14 : v2 = 11
                            · replace hf := ite_t cd_14 hf
                              refine g_tin (tgt := 182) (k := 11) (off := 138) X cd_14 hv2 (by decide) (by decide) (by rfl) dX11_of_44 (by decide) ?_
                              refine lv_aload_n hx hb dX11_of_182 rfl (lv_at hl 0 rfl) ?_
                              refine g_getr X w_M_2 fg_X11_121 KD_80 FR_80_53 dX11_of_183 ?_
                              refine lv_iload_n hx hb dX11_of_186 rfl (lv_at hl 1 rfl) ?_
                              obtain ⟨hg_10, hf⟩ := gd_some hf
                              refine g_iald X w_M_2 KD_114 hv1 hg_10 dX11_of_187 ?_
                              exact HR (M_2 114 v1.toNat) M_2 _ _ _ _ (Option.some.inj hf).symm (w_M_2.2.2 _ _) w_M_2 dX11_of_188
                            · replace hf := ite_f cd_14 hf
                              cases hf
  · replace hf := ite_t cd hf
    refine g_iconst X dX11_of_41 ?_
    exact HR 0 M_2 _ _ _ _ (Option.some.inj hf).symm (inL rfl) w_M_2 dX11_of_42
set_option maxRecDepth 100000 in
set_option maxHeartbeats 4000000 in
theorem b_X11_of_j23 (X : CX p s m args c cX11_of 4 RX11 D aC ad sg A H0) {o : Int × Mem} (HR : ∀ (r : Int) (M1 : Mem) (H : Heap) (locs : List Loc) (pc : Nat) (ls : Array Slot), o = (r, M1) → inR r → WS D aC ad A H0 M1 H locs → decode cX11_of pc = .ok (.ireturn, 1) → W p l e rm_X11_of s m args below meth c H locs 0 0 Q (F0 m pc ls [.int (i2 r)])) (v1 : Int) (hv1 : inR v1) (v2 : Int) (hv2 : inR v2) (s0 : Int) (hs0 : inR s0) (M : Mem) (hf : f_X11_of_j23 v1 v2 s0 M = some o) {H : Heap} {locs : List Loc} {ls : Array Slot} (hl : lv_has ls 4 [(0, .ref (ad 80)), (1, .int (i2 v1)), (2, .int (i2 v2))]) (w : WS D aC ad A H0 M H locs) : W p l e rm_X11_of s m args below meth c H locs 0 0 Q (F0 m 23 ls [.int (i2 s0)]) := by
  have hx := X.1.1
  have hb := X.1.2.1
  unfold f_X11_of_j23 at hf
  refine g_istn (v := s0) (lv' := [(3, .int (i2 s0)), (0, .ref (ad 80)), (1, .int (i2 v1)), (2, .int (i2 v2))]) X rfl dX11_of_23 rfl hl (by decide) rfl (fun ls hl => ?_)
  refine lv_aload_n hx hb dX11_of_24 rfl (lv_at hl 1 rfl) ?_
  refine lv_iload_n hx hb dX11_of_25 rfl (lv_at hl 0 rfl) ?_
  refine g_if_eq (tgt := 33) X hs0 dX11_of_26 (by decide) (fun cd => ?_) (fun cd => ?_)
  · replace hf := ite_t cd hf
    refine g_iconst X dX11_of_33 ?_
    exact b_X11_of_j34 X  HR v1 hv1 v2 hv2 s0 hs0 1 (inL rfl) M hf (lv_sub hl [1, 2, 3, 0] rfl) w
  · replace hf := ite_f cd hf
    refine g_iconst X dX11_of_29 ?_
    refine lv_goto (tgt := 34) hx hb dX11_of_30 (by decide) ?_
    exact b_X11_of_j34 X  HR v1 hv1 v2 hv2 s0 hs0 0 (inL rfl) M hf (lv_sub hl [1, 2, 3, 0] rfl) w
set_option maxRecDepth 100000 in
set_option maxHeartbeats 4000000 in
theorem b_X11_of_0 (X : CX p s m args c cX11_of 4 RX11 D aC ad sg A H0) {o : Int × Mem} (HR : ∀ (r : Int) (M1 : Mem) (H : Heap) (locs : List Loc) (pc : Nat) (ls : Array Slot), o = (r, M1) → inR r → WS D aC ad A H0 M1 H locs → decode cX11_of pc = .ok (.ireturn, 1) → W p l e rm_X11_of s m args below meth c H locs 0 0 Q (F0 m pc ls [.int (i2 r)])) (p1 : Int) (hp1 : inR p1) (p2 : Int) (hp2 : inR p2) (M : Mem) (hf : f_X11_of p1 p2 M = some o) {H : Heap} {locs : List Loc} {ls : Array Slot} (hl : lv_has ls 4 [(0, .ref (ad 80)), (1, .int (i2 p1)), (2, .int (i2 p2))]) (w : WS D aC ad A H0 M H locs) : W p l e rm_X11_of s m args below meth c H locs 0 0 Q (F0 m 0 ls []) := by
  have hx := X.1.1
  have hb := X.1.2.1
  unfold f_X11_of at hf
  refine lv_aload_n hx hb dX11_of_0 rfl (lv_at hl 0 rfl) ?_
  refine lv_iload_n hx hb dX11_of_1 rfl (lv_at hl 1 rfl) ?_
  obtain ⟨r, hc, hf⟩ := obn_some hf
  refine g_cvi (As := [.int (i2 p1)]) (rest := []) X w (k_X11_isChild X.2.2.1 p1 hp1 w.2.2 hc) lk_X11_149 cl_11 KD_80 ⟨rfl, rfl⟩ ⟨nle rfl, nle rfl⟩ ⟨nle rfl, nle rfl⟩ hl.1 rfl (nle rfl) dX11_of_2 (fun hr H locs w => ?_)
  refine g_if_eq (tgt := 22) X hr dX11_of_5 (by decide) (fun cd => ?_) (fun cd => ?_)
  · replace hf := ite_t cd hf
    refine g_iconst X dX11_of_22 ?_
    exact b_X11_of_j23 X  HR p1 hp1 p2 hp2 0 (inL rfl) M hf hl w
  · replace hf := ite_f cd hf
    refine lv_iload_n hx hb dX11_of_8 rfl (lv_at hl 2 rfl) ?_
    refine g_iconst X dX11_of_9 ?_
    refine g_bipush X dX11_of_10 (by decide) ?_
    obtain ⟨r_2, hc, hf⟩ := obn_some hf
    refine g_csi (As := [.int (i2 p2), .int (i2 0), .int (i2 12)]) (rest := []) X w (k_X11_within X.2.2.1 p2 hp2 0 (inL rfl) 12 (inL rfl) w.2.2 hc) lk_X11_145 ⟨rfl, rfl⟩ ⟨nle rfl, nle rfl⟩ ⟨nle rfl, nle rfl⟩ hl.1 rfl (nle rfl) dX11_of_12 (fun hr_2 H locs w => ?_)
    refine g_if_eq (tgt := 22) X hr_2 dX11_of_15 (by decide) (fun cd_2 => ?_) (fun cd_2 => ?_)
    · replace hf := ite_t cd_2 hf
      refine g_iconst X dX11_of_22 ?_
      exact b_X11_of_j23 X  HR p1 hp1 p2 hp2 0 (inL rfl) M hf hl w
    · replace hf := ite_f cd_2 hf
      refine g_iconst X dX11_of_18 ?_
      refine lv_goto (tgt := 23) hx hb dX11_of_19 (by decide) ?_
      exact b_X11_of_j23 X  HR p1 hp1 p2 hp2 1 (inL rfl) M hf hl w
set_option maxRecDepth 100000 in
set_option maxHeartbeats 4000000 in
theorem k_X11_of {l : Launch} {D : va_G} {aC : Nat → ClassId} {ad : Nat → Nat} {sg : SG} (hi : Inj ad) (p1 : Int) (hp1 : inR p1) (p2 : Int) (hp2 : inR p2) {M : Mem} (hM : inM M) {r : Int} {M' : Mem} (hf : f_X11_of p1 p2 M = some (r, M')) : MetI l D aC ad sg yX11_of cX11_of 4 (some .int) rm_X11_of 0 0 [.ref (ad 80), .int (i2 p1), .int (i2 p2)] M r M' := by
  refine MetI.ofI (by decide +kernel) (nle rfl) hi hM (fun p e s m args below meth c Q H0 ls X hl w hret => ?_)
  exact b_X11_of_0 X  (fun r1 M1 H locs pc ls eo hP w dg => by cases eo; exact hret H locs pc ls hP w dg) p1 hp1 p2 hp2 M hf hl w
set_option maxRecDepth 100000 in
set_option maxHeartbeats 4000000 in
theorem b_X11_count_s153 (X : CX p s m args c cX11_count 4 RX11 D aC ad sg A H0) (v1 : Int) (hv1 : inR v1) {M : Mem} {o : (Int × Int) ⊕ (Int × Int)} (HC : ∀ (y2 : Int) (y3 : Int) (H : Heap) (locs : List Loc) (ls : Array Slot), o = .inl (y2, y3) → inR y2 → inR y3 → lv_has ls 4 [(0, .ref (ad 80)), (1, .int (i2 v1)), (2, .int (i2 y2)), (3, .int (i2 y3))] → WS D aC ad A H0 M H locs → W p l e rm_X11_count s m args below meth c H locs 0 0 Q (F0 m 153 ls [])) (HE : ∀ (y2 : Int) (y3 : Int) (H : Heap) (locs : List Loc) (ls : Array Slot), o = .inr (y2, y3) → inR y2 → inR y3 → lv_has ls 4 [(0, .ref (ad 80)), (1, .int (i2 v1)), (2, .int (i2 y2)), (3, .int (i2 y3))] → WS D aC ad A H0 M H locs → W p l e rm_X11_count s m args below meth c H locs 0 0 Q (F0 m 188 ls [])) (v2 : Int) (hv2 : inR v2) (v3 : Int) (hv3 : inR v3) (hf : f_X11_count_s153 v1 M v2 v3 = some o) {H : Heap} {locs : List Loc} {ls : Array Slot} (hl : lv_has ls 4 [(0, .ref (ad 80)), (1, .int (i2 v1)), (2, .int (i2 v2)), (3, .int (i2 v3))]) (w : WS D aC ad A H0 M H locs) : W p l e rm_X11_count s m args below meth c H locs 0 0 Q (F0 m 153 ls []) := by
  have hx := X.1.1
  have hb := X.1.2.1
  unfold f_X11_count_s153 at hf
  refine lv_iload_n hx hb dX11_count_153 rfl (lv_at hl 3 rfl) ?_
  refine lv_aload_n hx hb dX11_count_154 rfl (lv_at hl 0 rfl) ?_
  refine g_geti X w fg_X11_142 KD_80 FR_80_1 dX11_count_155 ?_
  refine g_icmp_ge (tgt := 188) X hv3 (w.2.2 _ _) dX11_count_158 (by decide) (fun cd => ?_) (fun cd => ?_)
  · replace hf := ite_t cd hf
    exact HE v2 v3 _ _ _ (Option.some.inj hf).symm hv2 hv3 hl w
  · replace hf := ite_f cd hf
    refine lv_iload_n hx hb dX11_count_161 rfl (lv_at hl 2 rfl) ?_
    refine lv_aload_n hx hb dX11_count_162 rfl (lv_at hl 0 rfl) ?_
    refine g_getr X w fg_X11_106 KD_80 FR_80_47 dX11_count_163 ?_
    refine lv_iload_n hx hb dX11_count_166 rfl (lv_at hl 3 rfl) ?_
    obtain ⟨hg, hf⟩ := gd_some hf
    refine g_iald X w KD_110 hv3 hg dX11_count_167 ?_
    refine lv_iload_n hx hb dX11_count_168 rfl (lv_at hl 1 rfl) ?_
    refine g_bipush X dX11_count_169 (by decide) ?_
    refine g_isub X dX11_count_171 ?_
    refine g_icmp_ne (tgt := 179) X (w.2.2 _ _) (inR_wrap _) dX11_count_172 (by decide) (fun cd_2 => ?_) (fun cd_2 => ?_)
    · replace hf := ite_f cd_2 hf
      refine g_iconst X dX11_count_179 ?_
      refine g_iadd X dX11_count_180 ?_
      obtain ⟨v2_2, ev2_2, hf⟩ := lt_some hf
      have hv2_2 : inR v2_2 := inR_of ev2_2 (inR_wrap _)
      refine g_istn (v := v2_2) (lv' := [(2, .int (i2 v2_2)), (0, .ref (ad 80)), (1, .int (i2 v1)), (3, .int (i2 v3))]) X ev2_2 dX11_count_181 rfl hl (by decide) rfl (fun ls hl => ?_)
      obtain ⟨v3_2, ev3_2, hf⟩ := lt_some hf
      have hv3_2 : inR v3_2 := inR_of ev3_2 (inR_wrap _)
      refine lv_iinc (v := i2 v3_2) (lv' := [(3, .int (i2 v3_2)), (2, .int (i2 v2_2)), (0, .ref (ad 80)), (1, .int (i2 v1))]) hx hb dX11_count_182 hl (k := 3) rfl (by rw [ev3_2]; exact i2_add _ _) (by decide) rfl (fun ls hl => ?_)
      refine lv_goto (tgt := 153) hx hb dX11_count_185 (by decide) ?_
      exact HC v2_2 v3_2 _ _ _ (Option.some.inj hf).symm hv2_2 hv3_2 (lv_sub hl [2, 3, 1, 0] rfl) w
    · replace hf := ite_t cd_2 hf
      refine g_iconst X dX11_count_175 ?_
      refine lv_goto (tgt := 180) hx hb dX11_count_176 (by decide) ?_
      refine g_iadd X dX11_count_180 ?_
      obtain ⟨v2_3, ev2_3, hf⟩ := lt_some hf
      have hv2_3 : inR v2_3 := inR_of ev2_3 (inR_wrap _)
      refine g_istn (v := v2_3) (lv' := [(2, .int (i2 v2_3)), (0, .ref (ad 80)), (1, .int (i2 v1)), (3, .int (i2 v3))]) X ev2_3 dX11_count_181 rfl hl (by decide) rfl (fun ls hl => ?_)
      obtain ⟨v3_3, ev3_3, hf⟩ := lt_some hf
      have hv3_3 : inR v3_3 := inR_of ev3_3 (inR_wrap _)
      refine lv_iinc (v := i2 v3_3) (lv' := [(3, .int (i2 v3_3)), (2, .int (i2 v2_3)), (0, .ref (ad 80)), (1, .int (i2 v1))]) hx hb dX11_count_182 hl (k := 3) rfl (by rw [ev3_3]; exact i2_add _ _) (by decide) rfl (fun ls hl => ?_)
      refine lv_goto (tgt := 153) hx hb dX11_count_185 (by decide) ?_
      exact HC v2_3 v3_3 _ _ _ (Option.some.inj hf).symm hv2_3 hv3_3 (lv_sub hl [2, 3, 1, 0] rfl) w
set_option maxRecDepth 100000 in
set_option maxHeartbeats 4000000 in
theorem l_X11_count_153 (X : CX p s m args c cX11_count 4 RX11 D aC ad sg A H0) (v1 : Int) (hv1 : inR v1) {M : Mem} {out : Int × Int} (HE : ∀ (y2 : Int) (y3 : Int) (H : Heap) (locs : List Loc) (ls : Array Slot), out = (y2, y3) → inR y2 → inR y3 → lv_has ls 4 [(0, .ref (ad 80)), (1, .int (i2 v1)), (2, .int (i2 y2)), (3, .int (i2 y3))] → WS D aC ad A H0 M H locs → W p l e rm_X11_count s m args below meth c H locs 0 0 Q (F0 m 188 ls [])) : ∀ (n : Nat) (v2 : Int) (v3 : Int), whl (fun s => f_X11_count_s153 v1 M s.1 s.2) n (v2, v3) = some out → inR v2 → inR v3 → ∀ {H : Heap} {locs : List Loc} {ls : Array Slot}, lv_has ls 4 [(0, .ref (ad 80)), (1, .int (i2 v1)), (2, .int (i2 v2)), (3, .int (i2 v3))] → WS D aC ad A H0 M H locs → W p l e rm_X11_count s m args below meth c H locs 0 0 Q (F0 m 153 ls []) := by
  intro n
  induction n with
  | zero => intro v2 v3 hf; exact (whl_zero hf).elim
  | succ n ih =>
    intro v2 v3 hf hv2 hv3 H locs ls hl w
    obtain ⟨o, hf, hk1, hk2⟩ := whl_step hf
    exact b_X11_count_s153 X v1 hv1 (fun y2 y3 H locs ls eo hy2 hy3 hl w => ih y2 y3 (hk1 _ eo) hy2 hy3 hl w) (fun y2 y3 H locs ls eo hy2 hy3 hl w => HE y2 y3 H locs ls (hk2 _ eo).symm hy2 hy3 hl w) v2 hv2 v3 hv3 hf hl w
set_option maxRecDepth 100000 in
set_option maxHeartbeats 4000000 in
theorem b_X11_count_j188 (X : CX p s m args c cX11_count 4 RX11 D aC ad sg A H0) {o : Int × Mem} (HR : ∀ (r : Int) (M1 : Mem) (H : Heap) (locs : List Loc) (pc : Nat) (ls : Array Slot), o = (r, M1) → inR r → WS D aC ad A H0 M1 H locs → decode cX11_count pc = .ok (.ireturn, 1) → W p l e rm_X11_count s m args below meth c H locs 0 0 Q (F0 m pc ls [.int (i2 r)])) (v2 : Int) (hv2 : inR v2) (M : Mem) (hf : f_X11_count_j188 v2 M = some o) {H : Heap} {locs : List Loc} {ls : Array Slot} (hl : lv_has ls 4 [(2, .int (i2 v2))]) (w : WS D aC ad A H0 M H locs) : W p l e rm_X11_count s m args below meth c H locs 0 0 Q (F0 m 188 ls []) := by
  have hx := X.1.1
  have hb := X.1.2.1
  unfold f_X11_count_j188 at hf
  refine lv_iload_n hx hb dX11_count_188 rfl (lv_at hl 0 rfl) ?_
  exact HR v2 M _ _ _ _ (Option.some.inj hf).symm hv2 w dX11_count_189
set_option maxRecDepth 100000 in
set_option maxHeartbeats 4000000 in
theorem b_X11_count_0 (X : CX p s m args c cX11_count 4 RX11 D aC ad sg A H0) {o : Int × Mem} (HR : ∀ (r : Int) (M1 : Mem) (H : Heap) (locs : List Loc) (pc : Nat) (ls : Array Slot), o = (r, M1) → inR r → WS D aC ad A H0 M1 H locs → decode cX11_count pc = .ok (.ireturn, 1) → W p l e rm_X11_count s m args below meth c H locs 0 0 Q (F0 m pc ls [.int (i2 r)])) (p1 : Int) (hp1 : inR p1) (M : Mem) (hf : f_X11_count p1 M = some o) {H : Heap} {locs : List Loc} {ls : Array Slot} (hl : lv_has ls 4 [(0, .ref (ad 80)), (1, .int (i2 p1))]) (w : WS D aC ad A H0 M H locs) : W p l e rm_X11_count s m args below meth c H locs 0 0 Q (F0 m 0 ls []) := by
  have hx := X.1.1
  have hb := X.1.2.1
  unfold f_X11_count at hf
  refine lv_aload_n hx hb dX11_count_0 rfl (lv_at hl 0 rfl) ?_
  refine g_iconst X dX11_count_1 ?_
  obtain ⟨M_2, eM_2, hf⟩ := lt_some hf
  refine g_puti X w fp_X11_139 KD_80 FR_80_0 (inL rfl) dX11_count_2 (fun H locs w_M_2 => ?_)
  rw [← eM_2] at w_M_2
  refine lv_iload_n hx hb dX11_count_5 rfl (lv_at hl 1 rfl) ?_
  by_cases cd_3 : p1 < 0 ∨ 9 < p1
  · replace hf := ite_t cd_3 hf
    refine g_tout (tgt := 110) X hp1 cd_3 dX11_count_6 (by decide) ?_
    refine lv_iload_n hx hb dX11_count_110 rfl (lv_at hl 1 rfl) ?_
    refine g_bipush X dX11_count_111 (by decide) ?_
    refine g_bipush X dX11_count_113 (by decide) ?_
    obtain ⟨r, hc, hf⟩ := obn_some hf
    refine g_csi (As := [.int (i2 p1), .int (i2 20), .int (i2 22)]) (rest := []) X w_M_2 (k_X11_within X.2.2.1 p1 hp1 20 (inL rfl) 22 (inL rfl) w_M_2.2.2 hc) lk_X11_145 ⟨rfl, rfl⟩ ⟨nle rfl, nle rfl⟩ ⟨nle rfl, nle rfl⟩ hl.1 rfl (nle rfl) dX11_count_115 (fun hr H locs w_M_2 => ?_)
    refine g_if_eq (tgt := 131) X hr dX11_count_118 (by decide) (fun cd => ?_) (fun cd => ?_)
    · replace hf := ite_t cd hf
      refine lv_iload_n hx hb dX11_count_131 rfl (lv_at hl 1 rfl) ?_
      refine g_bipush X dX11_count_132 (by decide) ?_
      refine g_bipush X dX11_count_134 (by decide) ?_
      refine lv_aload_n hx hb dX11_count_136 rfl (lv_at hl 0 rfl) ?_
      refine g_geti X w_M_2 fg_X11_41 KD_80 FR_80_12 dX11_count_137 ?_
      refine g_iadd X dX11_count_140 ?_
      obtain ⟨r_2, hc, hf⟩ := obn_some hf
      refine g_csi (As := [.int (i2 p1), .int (i2 10), .int (i2 (wrap (9 + (M_2 80 12))))]) (rest := []) X w_M_2 (k_X11_within X.2.2.1 p1 hp1 10 (inL rfl) (wrap (9 + (M_2 80 12))) (inR_wrap _) w_M_2.2.2 hc) lk_X11_145 ⟨rfl, rfl⟩ ⟨nle rfl, nle rfl⟩ ⟨nle rfl, nle rfl⟩ hl.1 rfl (nle rfl) dX11_count_141 (fun hr_2 H locs w_M_2 => ?_)
      refine g_if_ne (tgt := 149) X hr_2 dX11_count_144 (by decide) (fun cd_2 => ?_) (fun cd_2 => ?_)
      · replace hf := ite_f cd_2 hf
        refine g_iconst X dX11_count_149 ?_
        refine g_istn (v := 0) (lv' := [(2, .int (i2 0)), (0, .ref (ad 80)), (1, .int (i2 p1))]) X rfl dX11_count_150 rfl hl (by decide) rfl (fun ls hl => ?_)
        refine g_iconst X dX11_count_151 ?_
        refine g_istn (v := 0) (lv' := [(3, .int (i2 0)), (2, .int (i2 0)), (0, .ref (ad 80)), (1, .int (i2 p1))]) X rfl dX11_count_152 rfl hl (by decide) rfl (fun ls hl => ?_)
        obtain ⟨q, hq, h1⟩ := obn_some hf
        exact l_X11_count_153 X p1 hp1 (out := q) (fun y2 y3 H locs ls eq hy2 hy3 hl w => b_X11_count_j188 X  HR y2 hy2 M_2 (by subst eq; exact h1) (lv_sub hl [2] rfl) w)  FU 0 0 hq (inL rfl) (inL rfl) (lv_sub hl [2, 3, 1, 0] rfl) w_M_2
      · replace hf := ite_t cd_2 hf
        refine g_iconst X dX11_count_147 ?_
        exact HR (-1) M_2 _ _ _ _ (Option.some.inj hf).symm (inL rfl) w_M_2 dX11_count_148
    · replace hf := ite_f cd hf
      refine lv_aload_n hx hb dX11_count_121 rfl (lv_at hl 0 rfl) ?_
      refine g_getr X w_M_2 fg_X11_45 KD_80 FR_80_13 dX11_count_122 ?_
      refine lv_iload_n hx hb dX11_count_125 rfl (lv_at hl 1 rfl) ?_
      refine g_bipush X dX11_count_126 (by decide) ?_
      refine g_isub X dX11_count_128 ?_
      obtain ⟨hg, hf⟩ := gd_some hf
      refine g_iald X w_M_2 KD_91 (inR_wrap _) hg dX11_count_129 ?_
      exact HR (M_2 91 (wrap (p1 - 20)).toNat) M_2 _ _ _ _ (Option.some.inj hf).symm (w_M_2.2.2 _ _) w_M_2 dX11_count_130
  · replace hf := ite_f cd_3 hf
    by_cases cd_4 : p1 = 0
    · replace hf := ite_t cd_4 hf
      refine g_tin (tgt := 60) (k := 0) (off := 54) X cd_4 hp1 (by decide) (by decide) (by rfl) dX11_count_6 (by decide) ?_
      refine lv_aload_n hx hb dX11_count_60 rfl (lv_at hl 0 rfl) ?_
      refine g_geti X w_M_2 fg_X11_142 KD_80 FR_80_1 dX11_count_61 ?_
      exact HR (M_2 80 1) M_2 _ _ _ _ (Option.some.inj hf).symm (w_M_2.2.2 _ _) w_M_2 dX11_count_64
    · replace hf := ite_f cd_4 hf
      by_cases cd_5 : p1 = 1
      · replace hf := ite_t cd_5 hf
        refine g_tin (tgt := 65) (k := 1) (off := 59) X cd_5 hp1 (by decide) (by decide) (by rfl) dX11_count_6 (by decide) ?_
        refine lv_aload_n hx hb dX11_count_65 rfl (lv_at hl 0 rfl) ?_
        refine g_geti X w_M_2 fg_X11_41 KD_80 FR_80_12 dX11_count_66 ?_
        exact HR (M_2 80 12) M_2 _ _ _ _ (Option.some.inj hf).symm (w_M_2.2.2 _ _) w_M_2 dX11_count_69
      · replace hf := ite_f cd_5 hf
        by_cases cd_6 : p1 = 2
        · replace hf := ite_t cd_6 hf
          refine g_tin (tgt := 70) (k := 2) (off := 64) X cd_6 hp1 (by decide) (by decide) (by rfl) dX11_count_6 (by decide) ?_
          refine lv_aload_n hx hb dX11_count_70 rfl (lv_at hl 0 rfl) ?_
          refine g_geti X w_M_2 fg_X11_153 KD_80 FR_80_14 dX11_count_71 ?_
          exact HR (M_2 80 14) M_2 _ _ _ _ (Option.some.inj hf).symm (w_M_2.2.2 _ _) w_M_2 dX11_count_74
        · replace hf := ite_f cd_6 hf
          by_cases cd_7 : p1 = 3
          · replace hf := ite_t cd_7 hf
            refine g_tin (tgt := 75) (k := 3) (off := 69) X cd_7 hp1 (by decide) (by decide) (by rfl) dX11_count_6 (by decide) ?_
            refine lv_aload_n hx hb dX11_count_75 rfl (lv_at hl 0 rfl) ?_
            refine g_geti X w_M_2 fg_X11_168 KD_80 FR_80_15 dX11_count_76 ?_
            exact HR (M_2 80 15) M_2 _ _ _ _ (Option.some.inj hf).symm (w_M_2.2.2 _ _) w_M_2 dX11_count_79
          · replace hf := ite_f cd_7 hf
            by_cases cd_8 : p1 = 4
            · replace hf := ite_t cd_8 hf
              refine g_tin (tgt := 80) (k := 4) (off := 74) X cd_8 hp1 (by decide) (by decide) (by rfl) dX11_count_6 (by decide) ?_
              refine lv_aload_n hx hb dX11_count_80 rfl (lv_at hl 0 rfl) ?_
              refine g_geti X w_M_2 fg_X11_210 KD_80 FR_80_32 dX11_count_81 ?_
              exact HR (M_2 80 32) M_2 _ _ _ _ (Option.some.inj hf).symm (w_M_2.2.2 _ _) w_M_2 dX11_count_84
            · replace hf := ite_f cd_8 hf
              by_cases cd_9 : p1 = 5
              · replace hf := ite_t cd_9 hf
                refine g_tin (tgt := 85) (k := 5) (off := 79) X cd_9 hp1 (by decide) (by decide) (by rfl) dX11_count_6 (by decide) ?_
                refine lv_aload_n hx hb dX11_count_85 rfl (lv_at hl 0 rfl) ?_
                obtain ⟨r_3, hc, hf⟩ := obn_some hf
                refine g_cvi (As := []) (rest := []) X w_M_2 (k_X11_listed X.2.2.1  w_M_2.2.2 hc) lk_X11_384 cl_11 KD_80 ⟨rfl, rfl⟩ ⟨nle rfl, nle rfl⟩ ⟨nle rfl, nle rfl⟩ hl.1 rfl (nle rfl) dX11_count_86 (fun hr_3 H locs w_M_2 => ?_)
                exact HR r_3 M_2 _ _ _ _ (Option.some.inj hf).symm hr_3 w_M_2 dX11_count_89
              · replace hf := ite_f cd_9 hf
                by_cases cd_10 : p1 = 6
                · replace hf := ite_t cd_10 hf
                  refine g_tin (tgt := 90) (k := 6) (off := 84) X cd_10 hp1 (by decide) (by decide) (by rfl) dX11_count_6 (by decide) ?_
                  refine lv_aload_n hx hb dX11_count_90 rfl (lv_at hl 0 rfl) ?_
                  refine g_geti X w_M_2 fg_X11_405 KD_80 FR_80_55 dX11_count_91 ?_
                  exact HR (M_2 80 55) M_2 _ _ _ _ (Option.some.inj hf).symm (w_M_2.2.2 _ _) w_M_2 dX11_count_94
                · replace hf := ite_f cd_10 hf
                  by_cases cd_11 : p1 = 7
                  · replace hf := ite_t cd_11 hf
                    refine g_tin (tgt := 95) (k := 7) (off := 89) X cd_11 hp1 (by decide) (by decide) (by rfl) dX11_count_6 (by decide) ?_
                    refine lv_aload_n hx hb dX11_count_95 rfl (lv_at hl 0 rfl) ?_
                    refine g_geti X w_M_2 fg_X11_307 KD_80 FR_80_21 dX11_count_96 ?_
                    exact HR (M_2 80 21) M_2 _ _ _ _ (Option.some.inj hf).symm (w_M_2.2.2 _ _) w_M_2 dX11_count_99
                  · replace hf := ite_f cd_11 hf
                    by_cases cd_12 : p1 = 8
                    · replace hf := ite_t cd_12 hf
                      refine g_tin (tgt := 100) (k := 8) (off := 94) X cd_12 hp1 (by decide) (by decide) (by rfl) dX11_count_6 (by decide) ?_
                      refine lv_aload_n hx hb dX11_count_100 rfl (lv_at hl 0 rfl) ?_
                      refine g_geti X w_M_2 fg_X11_396 KD_80 FR_80_50 dX11_count_101 ?_
                      exact HR (M_2 80 50) M_2 _ _ _ _ (Option.some.inj hf).symm (w_M_2.2.2 _ _) w_M_2 dX11_count_104
                    · replace hf := ite_f cd_12 hf
                      by_cases cd_13 : p1 = 9
                      · replace hf := ite_t cd_13 hf
                        refine g_tin (tgt := 105) (k := 9) (off := 99) X cd_13 hp1 (by decide) (by decide) (by rfl) dX11_count_6 (by decide) ?_
                        refine lv_aload_n hx hb dX11_count_105 rfl (lv_at hl 0 rfl) ?_
                        refine g_geti X w_M_2 fg_X11_409 KD_80 FR_80_56 dX11_count_106 ?_
                        exact HR (M_2 80 56) M_2 _ _ _ _ (Option.some.inj hf).symm (w_M_2.2.2 _ _) w_M_2 dX11_count_109
                      · replace hf := ite_f cd_13 hf
                        cases hf
set_option maxRecDepth 100000 in
set_option maxHeartbeats 4000000 in
theorem k_X11_count {l : Launch} {D : va_G} {aC : Nat → ClassId} {ad : Nat → Nat} {sg : SG} (hi : Inj ad) (p1 : Int) (hp1 : inR p1) {M : Mem} (hM : inM M) {r : Int} {M' : Mem} (hf : f_X11_count p1 M = some (r, M')) : MetI l D aC ad sg yX11_count cX11_count 4 (some .int) rm_X11_count 0 0 [.ref (ad 80), .int (i2 p1)] M r M' := by
  refine MetI.ofI (by decide +kernel) (nle rfl) hi hM (fun p e s m args below meth c Q H0 ls X hl w hret => ?_)
  exact b_X11_count_0 X  (fun r1 M1 H locs pc ls eo hP w dg => by cases eo; exact hret H locs pc ls hP w dg) p1 hp1 M hf hl w
end
