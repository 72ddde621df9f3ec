/-! the model's lie -/
theorem acw_0 : Cond.arrayClass .int ∈ BW := BW_in (List.mem_of_getElem? (i := 216) (by decide +kernel)) rfl
noncomputable section
def f_X11_lie_s62 (v1 : Int) (v2 : Int) (v3 : Int) (v5 : Int) (M : Mem) : Option ((Int × Mem) ⊕ (Int × Mem)) :=
  if 3 ≤ v5 then
    some (.inr (v5, M))
  else
    if v3 = 0 then
      some (.inr (v5, M))
    else
      gd ((0 : Int) ≤ (wrap ((wrap (3 * v1)) + v5)) ∧ ((wrap ((wrap (3 * v1)) + v5)) : Int) < 42) <|
      gd ((0 : Int) ≤ v5 ∧ (v5 : Int) < 3) <|
      lt (mup M 121 v5.toNat (M 86 (wrap ((wrap (3 * v1)) + v5)).toNat)) fun M_2 =>
      if v5 = v2 then
        gd ((0 : Int) ≤ v5 ∧ (v5 : Int) < 3) <|
        gd ((0 : Int) ≤ (wrap ((wrap (3 * v1)) + v5)) ∧ ((wrap ((wrap (3 * v1)) + v5)) : Int) < 42) <|
        lt (mup M_2 86 (wrap ((wrap (3 * v1)) + v5)).toNat (M_2 121 v5.toNat)) fun M_4 =>
        lt (wrap (v5 + 1)) fun v5_3 =>
        some (.inl (v5_3, M_4))
      else
        gd ((0 : Int) ≤ (wrap ((wrap (3 * v1)) + v5)) ∧ ((wrap ((wrap (3 * v1)) + v5)) : Int) < 42) <|
        lt (mup M_2 86 (wrap ((wrap (3 * v1)) + v5)).toNat (-1)) fun M_3 =>
        lt (wrap (v5 + 1)) fun v5_2 =>
        some (.inl (v5_2, M_3))
def f_X11_lie_l62 (v1 : Int) (v2 : Int) (v3 : Int) (v5 : Int) (M : Mem) : Option (Int × Mem) := whl (fun s => f_X11_lie_s62 v1 v2 v3 s.1 s.2) FU (v5, M)
def f_X11_lie_s181 (v1 : Int) (v3 : Int) (v5 : Int) (v6 : Int) (M : Mem) : Option ((Int × Mem) ⊕ (Int × Mem)) :=
  if 3 ≤ v6 then
    some (.inr (v6, M))
  else
    if v3 = 0 then
      some (.inr (v6, M))
    else
      gd ((0 : Int) ≤ v6 ∧ (v6 : Int) < 3) <|
      gd ((0 : Int) ≤ (wrap ((wrap (3 * v1)) + v6)) ∧ ((wrap ((wrap (3 * v1)) + v6)) : Int) < 42) <|
      lt (mup M 86 (wrap ((wrap (3 * v1)) + v6)).toNat (M 121 v6.toNat)) fun M_2 =>
      lt (wrap (v6 + 1)) fun v6_2 =>
      some (.inl (v6_2, M_2))
def f_X11_lie_l181 (v1 : Int) (v3 : Int) (v5 : Int) (v6 : Int) (M : Mem) : Option (Int × Mem) := whl (fun s => f_X11_lie_s181 v1 v3 v5 s.1 s.2) FU (v6, M)
def f_X11_lie_s237 (v1 : Int) (v6 : Int) (M : Mem) : Option ((Int × Mem) ⊕ (Int × Mem)) :=
  if (M 80 1) ≤ v6 then
    some (.inr (v6, M))
  else
    gd ((0 : Int) ≤ v6 ∧ (v6 : Int) < 14) <|
    gd ((0 : Int) ≤ v6 ∧ (v6 : Int) < 14) <|
    lt (mup M 108 v6.toNat (M 109 v6.toNat)) fun M_2 =>
    lt (wrap (v6 + 1)) fun v6_2 =>
    some (.inl (v6_2, M_2))
def f_X11_lie_l237 (v1 : Int) (v6 : Int) (M : Mem) : Option (Int × Mem) := whl (fun s => f_X11_lie_s237 v1 s.1 s.2) FU (v6, M)
def f_X11_lie_j266 (v1 : Int) (M : Mem) : Option (Int × Mem) :=
  obn (f_X11_servedIn v1 M) fun r =>
  some (r, M)
def f_X11_lie_j224 (v1 : Int) (v5 : Int) (s0 : Int) (M : Mem) : Option (Int × Mem) :=
  lt (mup M 80 0 s0) fun M_2 =>
  if 0 ≤ v5 then
    obn (f_X11_lie_l237 v1 0 M_2) fun s => f_X11_lie_j266 v1 s.2
  else
    some (0, M_2)
def f_X11_lie_j213 (v1 : Int) (v5 : Int) (M : Mem) : Option (Int × Mem) :=
  if 0 ≤ v5 then
    f_X11_lie_j224 v1 v5 0 M
  else
    f_X11_lie_j224 v1 v5 1 M
def f_X11_lie_j175 (v1 : Int) (v3 : Int) (v5 : Int) (s0 : Int) (M : Mem) : Option (Int × Mem) :=
  gd (isZ s0) <|
  lt (mup M 80 43 s0) fun M_2 =>
  obn (f_X11_lie_l181 v1 v3 v5 0 M_2) fun s => f_X11_lie_j213 v1 v5 s.2
def f_X11_lie_j156 (v1 : Int) (v3 : Int) (s0 : Int) (M : Mem) : Option (Int × Mem) :=
  if (M 80 43) = 0 then
    f_X11_lie_j175 v1 v3 s0 0 M
  else
    if v3 = 0 then
      f_X11_lie_j175 v1 v3 s0 1 M
    else
      f_X11_lie_j175 v1 v3 s0 0 M
def f_X11_lie_j137 (v1 : Int) (v3 : Int) (s0 : Int) (M : Mem) : Option (Int × Mem) :=
  gd (isZ s0) <|
  lt (mup M 80 43 s0) fun M_2 =>
  if v3 = 0 then
    f_X11_lie_j156 v1 v3 (-1) M_2
  else
    bnd (f_X11_bests (M_2 80 14) M_2) fun r M_3 =>
    lt (kq M_2 M_3) fun M_4 =>
    f_X11_lie_j156 v1 v3 r M_4
def f_X11_lie_j120 (v1 : Int) (v3 : Int) (M : Mem) : Option (Int × Mem) :=
  if (M 80 43) = 0 then
    f_X11_lie_j137 v1 v3 0 M
  else
    if v3 = 0 then
      f_X11_lie_j137 v1 v3 1 M
    else
      f_X11_lie_j137 v1 v3 0 M
def f_X11_lie_j45 (v1 : Int) (v2 : Int) (v3 : Int) (M : Mem) : Option (Int × Mem) :=
  lt (mup M 121 0 0) fun M_2 =>
  lt (mup M_2 121 1 0) fun M_3 =>
  lt (mup M_3 121 2 0) fun M_4 =>
  obn (f_X11_lie_l62 v1 v2 v3 0 M_4) fun s => f_X11_lie_j120 v1 v3 s.2
def f_X11_lie_j41 (v1 : Int) (v2 : Int) (s0 : Int) (M : Mem) : Option (Int × Mem) :=
  lt (mzq M) fun M_2 =>
  f_X11_lie_j45 v1 v2 s0 M_2
def f_X11_lie (p1 : Int) (p2 : Int) (M : Mem) : Option (Int × Mem) :=
  lt (mup M 80 0 0) fun M_2 =>
  obn (f_X11_isChild p1 M_2) fun r =>
  if r = 0 then
    f_X11_lie_j41 p1 p2 0 M_2
  else
    obn (f_X11_within p2 0 2 M_2) fun r_2 =>
    if r_2 = 0 then
      f_X11_lie_j41 p1 p2 0 M_2
    else
      gd ((0 : Int) ≤ (wrap ((wrap (3 * p1)) + p2)) ∧ ((wrap ((wrap (3 * p1)) + p2)) : Int) < 42) <|
      if (M_2 86 (wrap ((wrap (3 * p1)) + p2)).toNat) = (-1) then
        f_X11_lie_j41 p1 p2 0 M_2
      else
        f_X11_lie_j41 p1 p2 1 M_2
def rm_X11_lie : Room := { frames := 5, cells := 1, slots := 3, locals := 128 }
end
section
variable {p : Program} {l : Launch} {e : Env} {s : State} {m : MethodId} {args : Array Value} {below : List Frame} {meth : Method} {c : Code} {Q : State → Prop} {D : va_G} {aC : Nat → ClassId} {ad : Nat → Nat} {sg : SG} {A : Nat → Prop} {H0 : Heap}
set_option maxRecDepth 100000 in
set_option maxHeartbeats 4000000 in
theorem b_X11_lie_s62 {qa : Nat} (X : CX p s m args c cX11_lie 7 RX11 D aC ad sg A H0) (v1 : Int) (hv1 : inR v1) (v2 : Int) (hv2 : inR v2) (v3 : Int) (hv3 : inR v3) {o : (Int × Mem) ⊕ (Int × Mem)} (HC : ∀ (y5 : Int) (M1 : Mem) (H : Heap) (locs : List Loc) (ls : Array Slot), o = .inl (y5, M1) → inR y5 → lv_has ls 7 [(0, .ref (ad 80)), (1, .int (i2 v1)), (2, .int (i2 v2)), (3, .int (i2 v3)), (4, .ref qa), (5, .int (i2 y5))] → WL D aC ad qa A H0 M1 H locs → W p l e rm_X11_lie s m args below meth c H locs 1 3 Q (F0 m 62 ls [])) (HE : ∀ (y5 : Int) (M1 : Mem) (H : Heap) (locs : List Loc) (ls : Array Slot), o = .inr (y5, M1) → inR y5 → lv_has ls 7 [(0, .ref (ad 80)), (1, .int (i2 v1)), (2, .int (i2 v2)), (3, .int (i2 v3)), (4, .ref qa), (5, .int (i2 y5))] → WL D aC ad qa A H0 M1 H locs → W p l e rm_X11_lie s m args below meth c H locs 1 3 Q (F0 m 120 ls [])) (v5 : Int) (hv5 : inR v5) (M : Mem) (hf : f_X11_lie_s62 v1 v2 v3 v5 M = some o) {H : Heap} {locs : List Loc} {ls : Array Slot} (hl : lv_has ls 7 [(0, .ref (ad 80)), (1, .int (i2 v1)), (2, .int (i2 v2)), (3, .int (i2 v3)), (4, .ref qa), (5, .int (i2 v5))]) (w : WL D aC ad qa A H0 M H locs) : W p l e rm_X11_lie s m args below meth c H locs 1 3 Q (F0 m 62 ls []) := by
  have hx := X.1.1
  have hb := X.1.2.1
  unfold f_X11_lie_s62 at hf
  refine lv_iload hx hb dX11_lie_62 (lv_at hl 5 rfl) ?_
  refine g_iconst X dX11_lie_64 ?_
  refine g_icmp_ge (tgt := 120) X hv5 (inL rfl) dX11_lie_65 (by decide) (fun cd => ?_) (fun cd => ?_)
  · replace hf := ite_t cd hf
    exact HE v5 M _ _ _ (Option.some.inj hf).symm hv5 hl w
  · replace hf := ite_f cd hf
    refine lv_iload_n hx hb dX11_lie_68 rfl (lv_at hl 3 rfl) ?_
    refine g_if_eq (tgt := 120) X hv3 dX11_lie_69 (by decide) (fun cd_2 => ?_) (fun cd_2 => ?_)
    · replace hf := ite_t cd_2 hf
      exact HE v5 M _ _ _ (Option.some.inj hf).symm hv5 hl w
    · replace hf := ite_f cd_2 hf
      refine lv_aload hx hb dX11_lie_72 (lv_at hl 4 rfl) ?_
      refine lv_iload hx hb dX11_lie_74 (lv_at hl 5 rfl) ?_
      refine lv_aload_n hx hb dX11_lie_76 rfl (lv_at hl 0 rfl) ?_
      refine g_getr X w.ws fg_X11_25 KD_80 FR_80_7 dX11_lie_77 ?_
      refine g_iconst X dX11_lie_80 ?_
      refine lv_iload_n hx hb dX11_lie_81 rfl (lv_at hl 1 rfl) ?_
      refine g_imul X dX11_lie_82 ?_
      refine lv_iload hx hb dX11_lie_83 (lv_at hl 5 rfl) ?_
      refine g_iadd X dX11_lie_85 ?_
      obtain ⟨hg, hf⟩ := gd_some hf
      refine g_iald X w.ws KD_86 (inR_wrap _) hg dX11_lie_86 ?_
      obtain ⟨hg_2, hf⟩ := gd_some hf
      obtain ⟨M_2, eM_2, hf⟩ := lt_some hf
      refine gq_ast X w hv5 hg_2 (w.ws.2.2 _ _) dX11_lie_87 (fun H locs w_M_2 => ?_)
      rw [← eM_2] at w_M_2
      refine lv_aload_n hx hb dX11_lie_88 rfl (lv_at hl 0 rfl) ?_
      refine g_getr X w_M_2.ws fg_X11_25 KD_80 FR_80_7 dX11_lie_89 ?_
      refine g_iconst X dX11_lie_92 ?_
      refine lv_iload_n hx hb dX11_lie_93 rfl (lv_at hl 1 rfl) ?_
      refine g_imul X dX11_lie_94 ?_
      refine lv_iload hx hb dX11_lie_95 (lv_at hl 5 rfl) ?_
      refine g_iadd X dX11_lie_97 ?_
      refine lv_iload hx hb dX11_lie_98 (lv_at hl 5 rfl) ?_
      refine lv_iload_n hx hb dX11_lie_100 rfl (lv_at hl 2 rfl) ?_
      refine g_icmp_ne (tgt := 112) X hv5 hv2 dX11_lie_101 (by decide) (fun cd_3 => ?_) (fun cd_3 => ?_)
      · replace hf := ite_f cd_3 hf
        refine g_iconst X dX11_lie_112 ?_
        obtain ⟨hg_3, hf⟩ := gd_some hf
        obtain ⟨M_3, eM_3, hf⟩ := lt_some hf
        refine gq_iast X w_M_2 KD_86 (inR_wrap _) hg_3 (inL rfl) dX11_lie_113 (fun H locs w_M_3 => ?_)
        rw [← eM_3] at w_M_3
        obtain ⟨v5_2, ev5_2, hf⟩ := lt_some hf
        have hv5_2 : inR v5_2 := inR_of ev5_2 (inR_wrap _)
        refine lv_iinc (v := i2 v5_2) (lv' := [(5, .int (i2 v5_2)), (0, .ref (ad 80)), (1, .int (i2 v1)), (2, .int (i2 v2)), (3, .int (i2 v3)), (4, .ref qa)]) hx hb dX11_lie_114 hl (k := 5) rfl (by rw [ev5_2]; exact i2_add _ _) (by decide) rfl (fun ls hl => ?_)
        refine lv_goto (tgt := 62) hx hb dX11_lie_117 (by decide) ?_
        exact HC v5_2 M_3 _ _ _ (Option.some.inj hf).symm hv5_2 (lv_sub hl [1, 2, 3, 4, 5, 0] rfl) w_M_3
      · replace hf := ite_t cd_3 hf
        refine lv_aload hx hb dX11_lie_104 (lv_at hl 4 rfl) ?_
        refine lv_iload hx hb dX11_lie_106 (lv_at hl 5 rfl) ?_
        obtain ⟨hg_4, hf⟩ := gd_some hf
        refine gq_ald X w_M_2 hv5 hg_4 dX11_lie_108 ?_
        refine lv_goto (tgt := 113) hx hb dX11_lie_109 (by decide) ?_
        obtain ⟨hg_5, hf⟩ := gd_some hf
        obtain ⟨M_4, eM_4, hf⟩ := lt_some hf
        refine gq_iast X w_M_2 KD_86 (inR_wrap _) hg_5 (w_M_2.ws.2.2 _ _) dX11_lie_113 (fun H locs w_M_4 => ?_)
        rw [← eM_4] at w_M_4
        obtain ⟨v5_3, ev5_3, hf⟩ := lt_some hf
        have hv5_3 : inR v5_3 := inR_of ev5_3 (inR_wrap _)
        refine lv_iinc (v := i2 v5_3) (lv' := [(5, .int (i2 v5_3)), (0, .ref (ad 80)), (1, .int (i2 v1)), (2, .int (i2 v2)), (3, .int (i2 v3)), (4, .ref qa)]) hx hb dX11_lie_114 hl (k := 5) rfl (by rw [ev5_3]; exact i2_add _ _) (by decide) rfl (fun ls hl => ?_)
        refine lv_goto (tgt := 62) hx hb dX11_lie_117 (by decide) ?_
        exact HC v5_3 M_4 _ _ _ (Option.some.inj hf).symm hv5_3 (lv_sub hl [1, 2, 3, 4, 5, 0] rfl) w_M_4
set_option maxRecDepth 100000 in
set_option maxHeartbeats 4000000 in
theorem l_X11_lie_62 {qa : Nat} (X : CX p s m args c cX11_lie 7 RX11 D aC ad sg A H0) (v1 : Int) (hv1 : inR v1) (v2 : Int) (hv2 : inR v2) (v3 : Int) (hv3 : inR v3) {out : Int × Mem} (HE : ∀ (y5 : Int) (M1 : Mem) (H : Heap) (locs : List Loc) (ls : Array Slot), out = (y5, M1) → inR y5 → lv_has ls 7 [(0, .ref (ad 80)), (1, .int (i2 v1)), (2, .int (i2 v2)), (3, .int (i2 v3)), (4, .ref qa), (5, .int (i2 y5))] → WL D aC ad qa A H0 M1 H locs → W p l e rm_X11_lie s m args below meth c H locs 1 3 Q (F0 m 120 ls [])) : ∀ (n : Nat) (v5 : Int) (M : Mem), whl (fun s => f_X11_lie_s62 v1 v2 v3 s.1 s.2) n (v5, M) = some out → inR v5 → ∀ {H : Heap} {locs : List Loc} {ls : Array Slot}, lv_has ls 7 [(0, .ref (ad 80)), (1, .int (i2 v1)), (2, .int (i2 v2)), (3, .int (i2 v3)), (4, .ref qa), (5, .int (i2 v5))] → WL D aC ad qa A H0 M H locs → W p l e rm_X11_lie s m args below meth c H locs 1 3 Q (F0 m 62 ls []) := by
  intro n
  induction n with
  | zero => intro v5 M hf; exact (whl_zero hf).elim
  | succ n ih =>
    intro v5 M hf hv5 H locs ls hl w
    obtain ⟨o, hf, hk1, hk2⟩ := whl_step hf
    exact b_X11_lie_s62 X v1 hv1 v2 hv2 v3 hv3 (fun y5 M1 H locs ls eo hy5 hl w => ih y5 M1 (hk1 _ eo) hy5 hl w) (fun y5 M1 H locs ls eo hy5 hl w => HE y5 M1 H locs ls (hk2 _ eo).symm hy5 hl w) v5 hv5 M hf hl w
set_option maxRecDepth 100000 in
set_option maxHeartbeats 4000000 in
theorem b_X11_lie_s181 {qa : Nat} (X : CX p s m args c cX11_lie 7 RX11 D aC ad sg A H0) (v1 : Int) (hv1 : inR v1) (v3 : Int) (hv3 : inR v3) (v5 : Int) (hv5 : inR v5) {o : (Int × Mem) ⊕ (Int × Mem)} (HC : ∀ (y6 : Int) (M1 : Mem) (H : Heap) (locs : List Loc) (ls : Array Slot), o = .inl (y6, M1) → inR y6 → lv_has ls 7 [(0, .ref (ad 80)), (1, .int (i2 v1)), (3, .int (i2 v3)), (4, .ref qa), (5, .int (i2 v5)), (6, .int (i2 y6))] → WL D aC ad qa A H0 M1 H locs → W p l e rm_X11_lie s m args below meth c H locs 1 3 Q (F0 m 181 ls [])) (HE : ∀ (y6 : Int) (M1 : Mem) (H : Heap) (locs : List Loc) (ls : Array Slot), o = .inr (y6, M1) → inR y6 → lv_has ls 7 [(0, .ref (ad 80)), (1, .int (i2 v1)), (3, .int (i2 v3)), (4, .ref qa), (5, .int (i2 v5)), (6, .int (i2 y6))] → WL D aC ad qa A H0 M1 H locs → W p l e rm_X11_lie s m args below meth c H locs 1 3 Q (F0 m 213 ls [])) (v6 : Int) (hv6 : inR v6) (M : Mem) (hf : f_X11_lie_s181 v1 v3 v5 v6 M = some o) {H : Heap} {locs : List Loc} {ls : Array Slot} (hl : lv_has ls 7 [(0, .ref (ad 80)), (1, .int (i2 v1)), (3, .int (i2 v3)), (4, .ref qa), (5, .int (i2 v5)), (6, .int (i2 v6))]) (w : WL D aC ad qa A H0 M H locs) : W p l e rm_X11_lie s m args below meth c H locs 1 3 Q (F0 m 181 ls []) := by
  have hx := X.1.1
  have hb := X.1.2.1
  unfold f_X11_lie_s181 at hf
  refine lv_iload hx hb dX11_lie_181 (lv_at hl 5 rfl) ?_
  refine g_iconst X dX11_lie_183 ?_
  refine g_icmp_ge (tgt := 213) X hv6 (inL rfl) dX11_lie_184 (by decide) (fun cd => ?_) (fun cd => ?_)
  · replace hf := ite_t cd hf
    exact HE v6 M _ _ _ (Option.some.inj hf).symm hv6 hl w
  · replace hf := ite_f cd hf
    refine lv_iload_n hx hb dX11_lie_187 rfl (lv_at hl 2 rfl) ?_
    refine g_if_eq (tgt := 213) X hv3 dX11_lie_188 (by decide) (fun cd_2 => ?_) (fun cd_2 => ?_)
    · replace hf := ite_t cd_2 hf
      exact HE v6 M _ _ _ (Option.some.inj hf).symm hv6 hl w
    · replace hf := ite_f cd_2 hf
      refine lv_aload_n hx hb dX11_lie_191 rfl (lv_at hl 0 rfl) ?_
      refine g_getr X w.ws fg_X11_25 KD_80 FR_80_7 dX11_lie_192 ?_
      refine g_iconst X dX11_lie_195 ?_
      refine lv_iload_n hx hb dX11_lie_196 rfl (lv_at hl 1 rfl) ?_
      refine g_imul X dX11_lie_197 ?_
      refine lv_iload hx hb dX11_lie_198 (lv_at hl 5 rfl) ?_
      refine g_iadd X dX11_lie_200 ?_
      refine lv_aload hx hb dX11_lie_201 (lv_at hl 3 rfl) ?_
      refine lv_iload hx hb dX11_lie_203 (lv_at hl 5 rfl) ?_
      obtain ⟨hg, hf⟩ := gd_some hf
      refine gq_ald X w hv6 hg dX11_lie_205 ?_
      obtain ⟨hg_2, hf⟩ := gd_some hf
      obtain ⟨M_2, eM_2, hf⟩ := lt_some hf
      refine gq_iast X w KD_86 (inR_wrap _) hg_2 (w.ws.2.2 _ _) dX11_lie_206 (fun H locs w_M_2 => ?_)
      rw [← eM_2] at w_M_2
      obtain ⟨v6_2, ev6_2, hf⟩ := lt_some hf
      have hv6_2 : inR v6_2 := inR_of ev6_2 (inR_wrap _)
      refine lv_iinc (v := i2 v6_2) (lv' := [(6, .int (i2 v6_2)), (0, .ref (ad 80)), (1, .int (i2 v1)), (3, .int (i2 v3)), (4, .ref qa), (5, .int (i2 v5))]) hx hb dX11_lie_207 hl (k := 5) rfl (by rw [ev6_2]; exact i2_add _ _) (by decide) rfl (fun ls hl => ?_)
      refine lv_goto (tgt := 181) hx hb dX11_lie_210 (by decide) ?_
      exact HC v6_2 M_2 _ _ _ (Option.some.inj hf).symm hv6_2 (lv_sub hl [1, 2, 3, 4, 5, 0] rfl) w_M_2
set_option maxRecDepth 100000 in
set_option maxHeartbeats 4000000 in
theorem l_X11_lie_181 {qa : Nat} (X : CX p s m args c cX11_lie 7 RX11 D aC ad sg A H0) (v1 : Int) (hv1 : inR v1) (v3 : Int) (hv3 : inR v3) (v5 : Int) (hv5 : inR v5) {out : Int × Mem} (HE : ∀ (y6 : Int) (M1 : Mem) (H : Heap) (locs : List Loc) (ls : Array Slot), out = (y6, M1) → inR y6 → lv_has ls 7 [(0, .ref (ad 80)), (1, .int (i2 v1)), (3, .int (i2 v3)), (4, .ref qa), (5, .int (i2 v5)), (6, .int (i2 y6))] → WL D aC ad qa A H0 M1 H locs → W p l e rm_X11_lie s m args below meth c H locs 1 3 Q (F0 m 213 ls [])) : ∀ (n : Nat) (v6 : Int) (M : Mem), whl (fun s => f_X11_lie_s181 v1 v3 v5 s.1 s.2) n (v6, M) = some out → inR v6 → ∀ {H : Heap} {locs : List Loc} {ls : Array Slot}, lv_has ls 7 [(0, .ref (ad 80)), (1, .int (i2 v1)), (3, .int (i2 v3)), (4, .ref qa), (5, .int (i2 v5)), (6, .int (i2 v6))] → WL D aC ad qa A H0 M H locs → W p l e rm_X11_lie s m args below meth c H locs 1 3 Q (F0 m 181 ls []) := by
  intro n
  induction n with
  | zero => intro v6 M hf; exact (whl_zero hf).elim
  | succ n ih =>
    intro v6 M hf hv6 H locs ls hl w
    obtain ⟨o, hf, hk1, hk2⟩ := whl_step hf
    exact b_X11_lie_s181 X v1 hv1 v3 hv3 v5 hv5 (fun y6 M1 H locs ls eo hy6 hl w => ih y6 M1 (hk1 _ eo) hy6 hl w) (fun y6 M1 H locs ls eo hy6 hl w => HE y6 M1 H locs ls (hk2 _ eo).symm hy6 hl w) v6 hv6 M hf hl w
set_option maxRecDepth 100000 in
set_option maxHeartbeats 4000000 in
theorem b_X11_lie_s237 {qa : Nat} (X : CX p s m args c cX11_lie 7 RX11 D aC ad sg A H0) (v1 : Int) (hv1 : inR v1) {o : (Int × Mem) ⊕ (Int × Mem)} (HC : ∀ (y6 : Int) (M1 : Mem) (H : Heap) (locs : List Loc) (ls : Array Slot), o = .inl (y6, M1) → inR y6 → lv_has ls 7 [(0, .ref (ad 80)), (1, .int (i2 v1)), (6, .int (i2 y6))] → WL D aC ad qa A H0 M1 H locs → W p l e rm_X11_lie s m args below meth c H locs 1 3 Q (F0 m 237 ls [])) (HE : ∀ (y6 : Int) (M1 : Mem) (H : Heap) (locs : List Loc) (ls : Array Slot), o = .inr (y6, M1) → inR y6 → lv_has ls 7 [(0, .ref (ad 80)), (1, .int (i2 v1)), (6, .int (i2 y6))] → WL D aC ad qa A H0 M1 H locs → W p l e rm_X11_lie s m args below meth c H locs 1 3 Q (F0 m 266 ls [])) (v6 : Int) (hv6 : inR v6) (M : Mem) (hf : f_X11_lie_s237 v1 v6 M = some o) {H : Heap} {locs : List Loc} {ls : Array Slot} (hl : lv_has ls 7 [(0, .ref (ad 80)), (1, .int (i2 v1)), (6, .int (i2 v6))]) (w : WL D aC ad qa A H0 M H locs) : W p l e rm_X11_lie s m args below meth c H locs 1 3 Q (F0 m 237 ls []) := by
  have hx := X.1.1
  have hb := X.1.2.1
  unfold f_X11_lie_s237 at hf
  refine lv_iload hx hb dX11_lie_237 (lv_at hl 2 rfl) ?_
  refine lv_aload_n hx hb dX11_lie_239 rfl (lv_at hl 0 rfl) ?_
  refine g_geti X w.ws fg_X11_142 KD_80 FR_80_1 dX11_lie_240 ?_
  refine g_icmp_ge (tgt := 266) X hv6 (w.ws.2.2 _ _) dX11_lie_243 (by decide) (fun cd => ?_) (fun cd => ?_)
  · replace hf := ite_t cd hf
    exact HE v6 M _ _ _ (Option.some.inj hf).symm hv6 hl w
  · replace hf := ite_f cd hf
    refine lv_aload_n hx hb dX11_lie_246 rfl (lv_at hl 0 rfl) ?_
    refine g_getr X w.ws fg_X11_100 KD_80 FR_80_41 dX11_lie_247 ?_
    refine lv_iload hx hb dX11_lie_250 (lv_at hl 2 rfl) ?_
    refine lv_aload_n hx hb dX11_lie_252 rfl (lv_at hl 0 rfl) ?_
    refine g_getr X w.ws fg_X11_103 KD_80 FR_80_42 dX11_lie_253 ?_
    refine lv_iload hx hb dX11_lie_256 (lv_at hl 2 rfl) ?_
    obtain ⟨hg, hf⟩ := gd_some hf
    refine g_iald X w.ws KD_109 hv6 hg dX11_lie_258 ?_
    obtain ⟨hg_2, hf⟩ := gd_some hf
    obtain ⟨M_2, eM_2, hf⟩ := lt_some hf
    refine gq_iast X w KD_108 hv6 hg_2 (w.ws.2.2 _ _) dX11_lie_259 (fun H locs w_M_2 => ?_)
    rw [← eM_2] at w_M_2
    obtain ⟨v6_2, ev6_2, hf⟩ := lt_some hf
    have hv6_2 : inR v6_2 := inR_of ev6_2 (inR_wrap _)
    refine lv_iinc (v := i2 v6_2) (lv' := [(6, .int (i2 v6_2)), (0, .ref (ad 80)), (1, .int (i2 v1))]) hx hb dX11_lie_260 hl (k := 2) rfl (by rw [ev6_2]; exact i2_add _ _) (by decide) rfl (fun ls hl => ?_)
    refine lv_goto (tgt := 237) hx hb dX11_lie_263 (by decide) ?_
    exact HC v6_2 M_2 _ _ _ (Option.some.inj hf).symm hv6_2 (lv_sub hl [1, 2, 0] rfl) w_M_2
set_option maxRecDepth 100000 in
set_option maxHeartbeats 4000000 in
theorem l_X11_lie_237 {qa : Nat} (X : CX p s m args c cX11_lie 7 RX11 D aC ad sg A H0) (v1 : Int) (hv1 : inR v1) {out : Int × Mem} (HE : ∀ (y6 : Int) (M1 : Mem) (H : Heap) (locs : List Loc) (ls : Array Slot), out = (y6, M1) → inR y6 → lv_has ls 7 [(0, .ref (ad 80)), (1, .int (i2 v1)), (6, .int (i2 y6))] → WL D aC ad qa A H0 M1 H locs → W p l e rm_X11_lie s m args below meth c H locs 1 3 Q (F0 m 266 ls [])) : ∀ (n : Nat) (v6 : Int) (M : Mem), whl (fun s => f_X11_lie_s237 v1 s.1 s.2) n (v6, M) = some out → inR v6 → ∀ {H : Heap} {locs : List Loc} {ls : Array Slot}, lv_has ls 7 [(0, .ref (ad 80)), (1, .int (i2 v1)), (6, .int (i2 v6))] → WL D aC ad qa A H0 M H locs → W p l e rm_X11_lie s m args below meth c H locs 1 3 Q (F0 m 237 ls []) := by
  intro n
  induction n with
  | zero => intro v6 M hf; exact (whl_zero hf).elim
  | succ n ih =>
    intro v6 M hf hv6 H locs ls hl w
    obtain ⟨o, hf, hk1, hk2⟩ := whl_step hf
    exact b_X11_lie_s237 X v1 hv1 (fun y6 M1 H locs ls eo hy6 hl w => ih y6 M1 (hk1 _ eo) hy6 hl w) (fun y6 M1 H locs ls eo hy6 hl w => HE y6 M1 H locs ls (hk2 _ eo).symm hy6 hl w) v6 hv6 M hf hl w
set_option maxRecDepth 100000 in
set_option maxHeartbeats 4000000 in
theorem b_X11_lie_j266 {qa : Nat} (X : CX p s m args c cX11_lie 7 RX11 D aC ad sg A H0) {o : Int × Mem} (HR : ∀ (r : Int) (M1 : Mem) (H : Heap) (locs : List Loc) (pc : Nat) (ls : Array Slot), o = (r, M1) → inR r → WS D aC ad A H0 M1 H locs → decode cX11_lie pc = .ok (.ireturn, 1) → W p l e rm_X11_lie s m args below meth c H locs 1 3 Q (F0 m pc ls [.int (i2 r)])) (v1 : Int) (hv1 : inR v1) (M : Mem) (hf : f_X11_lie_j266 v1 M = some o) {H : Heap} {locs : List Loc} {ls : Array Slot} (hl : lv_has ls 7 [(0, .ref (ad 80)), (1, .int (i2 v1))]) (w : WL D aC ad qa A H0 M H locs) : W p l e rm_X11_lie s m args below meth c H locs 1 3 Q (F0 m 266 ls []) := by
  have hx := X.1.1
  have hb := X.1.2.1
  unfold f_X11_lie_j266 at hf
  refine lv_aload_n hx hb dX11_lie_266 rfl (lv_at hl 0 rfl) ?_
  refine lv_iload_n hx hb dX11_lie_267 rfl (lv_at hl 1 rfl) ?_
  obtain ⟨r, hc, hf⟩ := obn_some hf
  refine g_cvi (As := [.int (i2 v1)]) (rest := []) X w.ws (k_X11_servedIn X.2.2.1 v1 hv1 w.ws.2.2 hc) lk_X11_337 cl_11 KD_80 ⟨rfl, rfl⟩ ⟨nle rfl, nle rfl⟩ ⟨nle rfl, nle rfl⟩ hl.1 rfl (nle rfl) dX11_lie_268 (fun hr H locs w_r => ?_)
  exact HR r M _ _ _ _ (Option.some.inj hf).symm hr w_r dX11_lie_271
set_option maxRecDepth 100000 in
set_option maxHeartbeats 4000000 in
theorem b_X11_lie_j224 {qa : Nat} (X : CX p s m args c cX11_lie 7 RX11 D aC ad sg A H0) {o : Int × Mem} (HR : ∀ (r : Int) (M1 : Mem) (H : Heap) (locs : List Loc) (pc : Nat) (ls : Array Slot), o = (r, M1) → inR r → WS D aC ad A H0 M1 H locs → decode cX11_lie pc = .ok (.ireturn, 1) → W p l e rm_X11_lie s m args below meth c H locs 1 3 Q (F0 m pc ls [.int (i2 r)])) (v1 : Int) (hv1 : inR v1) (v5 : Int) (hv5 : inR v5) (s0 : Int) (hs0 : inR s0) (M : Mem) (hf : f_X11_lie_j224 v1 v5 s0 M = some o) {H : Heap} {locs : List Loc} {ls : Array Slot} (hl : lv_has ls 7 [(0, .ref (ad 80)), (1, .int (i2 v1)), (5, .int (i2 v5))]) (w : WL D aC ad qa A H0 M H locs) : W p l e rm_X11_lie s m args below meth c H locs 1 3 Q (F0 m 224 ls [.int (i2 s0), .ref (ad 80)]) := by
  have hx := X.1.1
  have hb := X.1.2.1
  unfold f_X11_lie_j224 at hf
  obtain ⟨M_2, eM_2, hf⟩ := lt_some hf
  refine gq_puti X w fp_X11_139 KD_80 FR_80_0 hs0 dX11_lie_224 (fun H locs w_M_2 => ?_)
  rw [← eM_2] at w_M_2
  refine lv_iload hx hb dX11_lie_227 (lv_at hl 2 rfl) ?_
  refine g_if_ge (tgt := 234) X hv5 dX11_lie_229 (by decide) (fun cd => ?_) (fun cd => ?_)
  · replace hf := ite_t cd hf
    refine g_iconst X dX11_lie_234 ?_
    refine g_ist (v := 0) (lv' := [(6, .int (i2 0)), (0, .ref (ad 80)), (1, .int (i2 v1)), (5, .int (i2 v5))]) X rfl dX11_lie_235 hl (by decide) rfl (fun ls hl => ?_)
    obtain ⟨q, hq, h1⟩ := obn_some hf
    exact l_X11_lie_237 X v1 hv1 (out := q) (fun y6 M1 H locs ls eq hy6 hl w => b_X11_lie_j266 X  HR v1 hv1 M1 (by subst eq; exact h1) (lv_sub hl [0, 1] rfl) w)  FU 0 M_2 hq (inL rfl) (lv_sub hl [1, 2, 0] rfl) w_M_2
  · replace hf := ite_f cd hf
    refine g_iconst X dX11_lie_232 ?_
    exact HR 0 M_2 _ _ _ _ (Option.some.inj hf).symm (inL rfl) w_M_2.ws dX11_lie_233
set_option maxRecDepth 100000 in
set_option maxHeartbeats 4000000 in
theorem b_X11_lie_j213 {qa : Nat} (X : CX p s m args c cX11_lie 7 RX11 D aC ad sg A H0) {o : Int × Mem} (HR : ∀ (r : Int) (M1 : Mem) (H : Heap) (locs : List Loc) (pc : Nat) (ls : Array Slot), o = (r, M1) → inR r → WS D aC ad A H0 M1 H locs → decode cX11_lie pc = .ok (.ireturn, 1) → W p l e rm_X11_lie s m args below meth c H locs 1 3 Q (F0 m pc ls [.int (i2 r)])) (v1 : Int) (hv1 : inR v1) (v5 : Int) (hv5 : inR v5) (M : Mem) (hf : f_X11_lie_j213 v1 v5 M = some o) {H : Heap} {locs : List Loc} {ls : Array Slot} (hl : lv_has ls 7 [(0, .ref (ad 80)), (1, .int (i2 v1)), (5, .int (i2 v5))]) (w : WL D aC ad qa A H0 M H locs) : W p l e rm_X11_lie s m args below meth c H locs 1 3 Q (F0 m 213 ls []) := by
  have hx := X.1.1
  have hb := X.1.2.1
  unfold f_X11_lie_j213 at hf
  refine lv_aload_n hx hb dX11_lie_213 rfl (lv_at hl 0 rfl) ?_
  refine lv_iload hx hb dX11_lie_214 (lv_at hl 2 rfl) ?_
  refine g_if_ge (tgt := 223) X hv5 dX11_lie_216 (by decide) (fun cd => ?_) (fun cd => ?_)
  · replace hf := ite_t cd hf
    refine g_iconst X dX11_lie_223 ?_
    exact b_X11_lie_j224 X  HR v1 hv1 v5 hv5 0 (inL rfl) M hf hl w
  · replace hf := ite_f cd hf
    refine g_iconst X dX11_lie_219 ?_
    refine lv_goto (tgt := 224) hx hb dX11_lie_220 (by decide) ?_
    exact b_X11_lie_j224 X  HR v1 hv1 v5 hv5 1 (inL rfl) M hf hl w
set_option maxRecDepth 100000 in
set_option maxHeartbeats 4000000 in
theorem b_X11_lie_j175 {qa : Nat} (X : CX p s m args c cX11_lie 7 RX11 D aC ad sg A H0) {o : Int × Mem} (HR : ∀ (r : Int) (M1 : Mem) (H : Heap) (locs : List Loc) (pc : Nat) (ls : Array Slot), o = (r, M1) → inR r → WS D aC ad A H0 M1 H locs → decode cX11_lie pc = .ok (.ireturn, 1) → W p l e rm_X11_lie s m args below meth c H locs 1 3 Q (F0 m pc ls [.int (i2 r)])) (v1 : Int) (hv1 : inR v1) (v3 : Int) (hv3 : inR v3) (v5 : Int) (hv5 : inR v5) (s0 : Int) (hs0 : inR s0) (M : Mem) (hf : f_X11_lie_j175 v1 v3 v5 s0 M = some o) {H : Heap} {locs : List Loc} {ls : Array Slot} (hl : lv_has ls 7 [(0, .ref (ad 80)), (1, .int (i2 v1)), (3, .int (i2 v3)), (4, .ref qa), (5, .int (i2 v5))]) (w : WL D aC ad qa A H0 M H locs) : W p l e rm_X11_lie s m args below meth c H locs 1 3 Q (F0 m 175 ls [.int (i2 s0), .ref (ad 80)]) := by
  have hx := X.1.1
  have hb := X.1.2.1
  unfold f_X11_lie_j175 at hf
  obtain ⟨hz, hf⟩ := gd_some hf
  obtain ⟨M_2, eM_2, hf⟩ := lt_some hf
  refine gq_putz X w fp_X11_156 KD_80 FR_80_43 hz dX11_lie_175 (fun H locs w_M_2 => ?_)
  rw [← eM_2] at w_M_2
  refine g_iconst X dX11_lie_178 ?_
  refine g_ist (v := 0) (lv' := [(6, .int (i2 0)), (0, .ref (ad 80)), (1, .int (i2 v1)), (3, .int (i2 v3)), (4, .ref qa), (5, .int (i2 v5))]) X rfl dX11_lie_179 hl (by decide) rfl (fun ls hl => ?_)
  obtain ⟨q, hq, h1⟩ := obn_some hf
  exact l_X11_lie_181 X v1 hv1 v3 hv3 v5 hv5 (out := q) (fun y6 M1 H locs ls eq hy6 hl w => b_X11_lie_j213 X  HR v1 hv1 v5 hv5 M1 (by subst eq; exact h1) (lv_sub hl [0, 1, 4] rfl) w)  FU 0 M_2 hq (inL rfl) (lv_sub hl [1, 2, 3, 4, 5, 0] rfl) w_M_2
set_option maxRecDepth 100000 in
set_option maxHeartbeats 4000000 in
theorem b_X11_lie_j156 {qa : Nat} (X : CX p s m args c cX11_lie 7 RX11 D aC ad sg A H0) {o : Int × Mem} (HR : ∀ (r : Int) (M1 : Mem) (H : Heap) (locs : List Loc) (pc : Nat) (ls : Array Slot), o = (r, M1) → inR r → WS D aC ad A H0 M1 H locs → decode cX11_lie pc = .ok (.ireturn, 1) → W p l e rm_X11_lie s m args below meth c H locs 1 3 Q (F0 m pc ls [.int (i2 r)])) (v1 : Int) (hv1 : inR v1) (v3 : Int) (hv3 : inR v3) (s0 : Int) (hs0 : inR s0) (M : Mem) (hf : f_X11_lie_j156 v1 v3 s0 M = some o) {H : Heap} {locs : List Loc} {ls : Array Slot} (hl : lv_has ls 7 [(0, .ref (ad 80)), (1, .int (i2 v1)), (3, .int (i2 v3)), (4, .ref qa)]) (w : WL D aC ad qa A H0 M H locs) : W p l e rm_X11_lie s m args below meth c H locs 1 3 Q (F0 m 156 ls [.int (i2 s0)]) := by
  have hx := X.1.1
  have hb := X.1.2.1
  unfold f_X11_lie_j156 at hf
  refine g_ist (v := s0) (lv' := [(5, .int (i2 s0)), (0, .ref (ad 80)), (1, .int (i2 v1)), (3, .int (i2 v3)), (4, .ref qa)]) X rfl dX11_lie_156 hl (by decide) rfl (fun ls hl => ?_)
  refine lv_aload_n hx hb dX11_lie_158 rfl (lv_at hl 1 rfl) ?_
  refine lv_aload_n hx hb dX11_lie_159 rfl (lv_at hl 1 rfl) ?_
  refine g_geti X w.ws fg_X11_156 KD_80 FR_80_43 dX11_lie_160 ?_
  refine g_if_eq (tgt := 174) X (w.ws.2.2 _ _) dX11_lie_163 (by decide) (fun cd => ?_) (fun cd => ?_)
  · replace hf := ite_t cd hf
    refine g_iconst X dX11_lie_174 ?_
    exact b_X11_lie_j175 X  HR v1 hv1 v3 hv3 s0 hs0 0 (inL rfl) M hf (lv_sub hl [1, 2, 3, 4, 0] rfl) w
  · replace hf := ite_f cd hf
    refine lv_iload_n hx hb dX11_lie_166 rfl (lv_at hl 3 rfl) ?_
    refine g_if_ne (tgt := 174) X hv3 dX11_lie_167 (by decide) (fun cd_2 => ?_) (fun cd_2 => ?_)
    · replace hf := ite_f cd_2 hf
      refine g_iconst X dX11_lie_174 ?_
      exact b_X11_lie_j175 X  HR v1 hv1 v3 hv3 s0 hs0 0 (inL rfl) M hf (lv_sub hl [1, 2, 3, 4, 0] rfl) w
    · replace hf := ite_t cd_2 hf
      refine g_iconst X dX11_lie_170 ?_
      refine lv_goto (tgt := 175) hx hb dX11_lie_171 (by decide) ?_
      exact b_X11_lie_j175 X  HR v1 hv1 v3 hv3 s0 hs0 1 (inL rfl) M hf (lv_sub hl [1, 2, 3, 4, 0] rfl) w
set_option maxRecDepth 100000 in
set_option maxHeartbeats 4000000 in
theorem b_X11_lie_j137 {qa : Nat} (X : CX p s m args c cX11_lie 7 RX11 D aC ad sg A H0) {o : Int × Mem} (HR : ∀ (r : Int) (M1 : Mem) (H : Heap) (locs : List Loc) (pc : Nat) (ls : Array Slot), o = (r, M1) → inR r → WS D aC ad A H0 M1 H locs → decode cX11_lie pc = .ok (.ireturn, 1) → W p l e rm_X11_lie s m args below meth c H locs 1 3 Q (F0 m pc ls [.int (i2 r)])) (v1 : Int) (hv1 : inR v1) (v3 : Int) (hv3 : inR v3) (s0 : Int) (hs0 : inR s0) (M : Mem) (hf : f_X11_lie_j137 v1 v3 s0 M = some o) {H : Heap} {locs : List Loc} {ls : Array Slot} (hl : lv_has ls 7 [(0, .ref (ad 80)), (1, .int (i2 v1)), (3, .int (i2 v3)), (4, .ref qa)]) (w : WL D aC ad qa A H0 M H locs) : W p l e rm_X11_lie s m args below meth c H locs 1 3 Q (F0 m 137 ls [.int (i2 s0), .ref (ad 80)]) := by
  have hx := X.1.1
  have hb := X.1.2.1
  unfold f_X11_lie_j137 at hf
  obtain ⟨hz, hf⟩ := gd_some hf
  obtain ⟨M_2, eM_2, hf⟩ := lt_some hf
  refine gq_putz X w fp_X11_156 KD_80 FR_80_43 hz dX11_lie_137 (fun H locs w_M_2 => ?_)
  rw [← eM_2] at w_M_2
  refine lv_iload_n hx hb dX11_lie_140 rfl (lv_at hl 2 rfl) ?_
  refine g_if_eq (tgt := 155) X hv3 dX11_lie_141 (by decide) (fun cd => ?_) (fun cd => ?_)
  · replace hf := ite_t cd hf
    refine g_iconst X dX11_lie_155 ?_
    exact b_X11_lie_j156 X  HR v1 hv1 v3 hv3 (-1) (inL rfl) M_2 hf hl w_M_2
  · replace hf := ite_f cd hf
    refine lv_aload_n hx hb dX11_lie_144 rfl (lv_at hl 0 rfl) ?_
    refine lv_aload_n hx hb dX11_lie_145 rfl (lv_at hl 0 rfl) ?_
    refine g_geti X w_M_2.ws fg_X11_153 KD_80 FR_80_14 dX11_lie_146 ?_
    obtain ⟨r, M_3, hc, hf⟩ := bnd_some hf
    obtain ⟨M_4, eM_4, hf⟩ := lt_some hf
    refine gq_cvi (As := [.int (i2 (M_2 80 14))]) (rest := []) X w_M_2 (k_X11_bests X.2.2.1 (M_2 80 14) (w_M_2.ws.2.2 _ _) w_M_2.ws.2.2 hc) lk_X11_364 cl_11 KD_80 ⟨rfl, rfl⟩ ⟨nle rfl, nle rfl⟩ ⟨nle rfl, nle rfl⟩ hl.1 rfl (nle rfl) dX11_lie_149 (fun hr H locs w_M_3 => ?_)
    rw [← eM_4] at w_M_3
    refine lv_goto (tgt := 156) hx hb dX11_lie_152 (by decide) ?_
    exact b_X11_lie_j156 X  HR v1 hv1 v3 hv3 r hr M_4 hf hl w_M_3
set_option maxRecDepth 100000 in
set_option maxHeartbeats 4000000 in
theorem b_X11_lie_j120 {qa : Nat} (X : CX p s m args c cX11_lie 7 RX11 D aC ad sg A H0) {o : Int × Mem} (HR : ∀ (r : Int) (M1 : Mem) (H : Heap) (locs : List Loc) (pc : Nat) (ls : Array Slot), o = (r, M1) → inR r → WS D aC ad A H0 M1 H locs → decode cX11_lie pc = .ok (.ireturn, 1) → W p l e rm_X11_lie s m args below meth c H locs 1 3 Q (F0 m pc ls [.int (i2 r)])) (v1 : Int) (hv1 : inR v1) (v3 : Int) (hv3 : inR v3) (M : Mem) (hf : f_X11_lie_j120 v1 v3 M = some o) {H : Heap} {locs : List Loc} {ls : Array Slot} (hl : lv_has ls 7 [(0, .ref (ad 80)), (1, .int (i2 v1)), (3, .int (i2 v3)), (4, .ref qa)]) (w : WL D aC ad qa A H0 M H locs) : W p l e rm_X11_lie s m args below meth c H locs 1 3 Q (F0 m 120 ls []) := by
  have hx := X.1.1
  have hb := X.1.2.1
  unfold f_X11_lie_j120 at hf
  refine lv_aload_n hx hb dX11_lie_120 rfl (lv_at hl 0 rfl) ?_
  refine lv_aload_n hx hb dX11_lie_121 rfl (lv_at hl 0 rfl) ?_
  refine g_geti X w.ws fg_X11_156 KD_80 FR_80_43 dX11_lie_122 ?_
  refine g_if_eq (tgt := 136) X (w.ws.2.2 _ _) dX11_lie_125 (by decide) (fun cd => ?_) (fun cd => ?_)
  · replace hf := ite_t cd hf
    refine g_iconst X dX11_lie_136 ?_
    exact b_X11_lie_j137 X  HR v1 hv1 v3 hv3 0 (inL rfl) M hf hl w
  · replace hf := ite_f cd hf
    refine lv_iload_n hx hb dX11_lie_128 rfl (lv_at hl 2 rfl) ?_
    refine g_if_ne (tgt := 136) X hv3 dX11_lie_129 (by decide) (fun cd_2 => ?_) (fun cd_2 => ?_)
    · replace hf := ite_f cd_2 hf
      refine g_iconst X dX11_lie_136 ?_
      exact b_X11_lie_j137 X  HR v1 hv1 v3 hv3 0 (inL rfl) M hf hl w
    · replace hf := ite_t cd_2 hf
      refine g_iconst X dX11_lie_132 ?_
      refine lv_goto (tgt := 137) hx hb dX11_lie_133 (by decide) ?_
      exact b_X11_lie_j137 X  HR v1 hv1 v3 hv3 1 (inL rfl) M hf hl w
set_option maxRecDepth 100000 in
set_option maxHeartbeats 4000000 in
theorem b_X11_lie_j45 {qa : Nat} (X : CX p s m args c cX11_lie 7 RX11 D aC ad sg A H0) {o : Int × Mem} (HR : ∀ (r : Int) (M1 : Mem) (H : Heap) (locs : List Loc) (pc : Nat) (ls : Array Slot), o = (r, M1) → inR r → WS D aC ad A H0 M1 H locs → decode cX11_lie pc = .ok (.ireturn, 1) → W p l e rm_X11_lie s m args below meth c H locs 1 3 Q (F0 m pc ls [.int (i2 r)])) (v1 : Int) (hv1 : inR v1) (v2 : Int) (hv2 : inR v2) (v3 : Int) (hv3 : inR v3) (M : Mem) (hf : f_X11_lie_j45 v1 v2 v3 M = some o) {H : Heap} {locs : List Loc} {ls : Array Slot} (hl : lv_has ls 7 [(0, .ref (ad 80)), (1, .int (i2 v1)), (2, .int (i2 v2)), (3, .int (i2 v3))]) (w : WL D aC ad qa A H0 M H locs) : W p l e rm_X11_lie s m args below meth c H locs 1 3 Q (F0 m 45 ls [.ref qa]) := by
  have hx := X.1.1
  have hb := X.1.2.1
  unfold f_X11_lie_j45 at hf
  refine lv_dup hx hb dX11_lie_45 rfl ?_
  refine g_iconst X dX11_lie_46 ?_
  refine g_iconst X dX11_lie_47 ?_
  obtain ⟨M_2, eM_2, hf⟩ := lt_some hf
  refine gq_ast X w (inL rfl) (by decide) (inL rfl) dX11_lie_48 (fun H locs w_M_2 => ?_)
  replace w_M_2 : WL D aC ad qa A H0 (mup M 121 0 0) H locs := w_M_2
  rw [← eM_2] at w_M_2
  refine lv_dup hx hb dX11_lie_49 rfl ?_
  refine g_iconst X dX11_lie_50 ?_
  refine g_iconst X dX11_lie_51 ?_
  obtain ⟨M_3, eM_3, hf⟩ := lt_some hf
  refine gq_ast X w_M_2 (inL rfl) (by decide) (inL rfl) dX11_lie_52 (fun H locs w_M_3 => ?_)
  replace w_M_3 : WL D aC ad qa A H0 (mup M_2 121 1 0) H locs := w_M_3
  rw [← eM_3] at w_M_3
  refine lv_dup hx hb dX11_lie_53 rfl ?_
  refine g_iconst X dX11_lie_54 ?_
  refine g_iconst X dX11_lie_55 ?_
  obtain ⟨M_4, eM_4, hf⟩ := lt_some hf
  refine gq_ast X w_M_3 (inL rfl) (by decide) (inL rfl) dX11_lie_56 (fun H locs w_M_4 => ?_)
  replace w_M_4 : WL D aC ad qa A H0 (mup M_3 121 2 0) H locs := w_M_4
  rw [← eM_4] at w_M_4
  refine lv_astore (lv' := [(4, .ref qa), (0, .ref (ad 80)), (1, .int (i2 v1)), (2, .int (i2 v2)), (3, .int (i2 v3))]) hx hb dX11_lie_57 hl (by decide) rfl (fun ls hl => ?_)
  refine g_iconst X dX11_lie_59 ?_
  refine g_ist (v := 0) (lv' := [(5, .int (i2 0)), (4, .ref qa), (0, .ref (ad 80)), (1, .int (i2 v1)), (2, .int (i2 v2)), (3, .int (i2 v3))]) X rfl dX11_lie_60 hl (by decide) rfl (fun ls hl => ?_)
  obtain ⟨q, hq, h1⟩ := obn_some hf
  exact l_X11_lie_62 X v1 hv1 v2 hv2 v3 hv3 (out := q) (fun y5 M1 H locs ls eq hy5 hl w => b_X11_lie_j120 X  HR v1 hv1 v3 hv3 M1 (by subst eq; exact h1) (lv_sub hl [0, 1, 3, 4] rfl) w)  FU 0 M_4 hq (inL rfl) (lv_sub hl [2, 3, 4, 5, 1, 0] rfl) w_M_4
set_option maxRecDepth 100000 in
set_option maxHeartbeats 4000000 in
theorem b_X11_lie_j41 (X : CX p s m args c cX11_lie 7 RX11 D aC ad sg A H0) {o : Int × Mem} (HR : ∀ (r : Int) (M1 : Mem) (H : Heap) (locs : List Loc) (pc : Nat) (ls : Array Slot), o = (r, M1) → inR r → WS D aC ad A H0 M1 H locs → decode cX11_lie pc = .ok (.ireturn, 1) → W p l e rm_X11_lie s m args below meth c H locs 1 3 Q (F0 m pc ls [.int (i2 r)])) (v1 : Int) (hv1 : inR v1) (v2 : Int) (hv2 : inR v2) (s0 : Int) (hs0 : inR s0) (M : Mem) (hf : f_X11_lie_j41 v1 v2 s0 M = some o) {H : Heap} {locs : List Loc} {ls : Array Slot} (hl : lv_has ls 7 [(0, .ref (ad 80)), (1, .int (i2 v1)), (2, .int (i2 v2))]) (w : WS D aC ad A H0 M H locs) : W p l e rm_X11_lie s m args below meth c H locs 0 0 Q (F0 m 41 ls [.int (i2 s0)]) := by
  have hx := X.1.1
  have hb := X.1.2.1
  unfold f_X11_lie_j41 at hf
  refine g_istn (v := s0) (lv' := [(3, .int (i2 s0)), (0, .ref (ad 80)), (1, .int (i2 v1)), (2, .int (i2 v2))]) X rfl dX11_lie_41 rfl hl (by decide) rfl (fun ls hl => ?_)
  refine g_iconst X dX11_lie_42 ?_
  obtain ⟨M_2, eM_2, hf⟩ := lt_some hf
  refine gq_new X w acw_0 (nle rfl) (nle rfl) dX11_lie_43 (fun qa H w_M_2 => ?_)
  rw [← eM_2] at w_M_2
  exact b_X11_lie_j45 X  HR v1 hv1 v2 hv2 s0 hs0 M_2 hf (lv_sub hl [1, 2, 3, 0] rfl) w_M_2
set_option maxRecDepth 100000 in
set_option maxHeartbeats 4000000 in
theorem b_X11_lie_0 (X : CX p s m args c cX11_lie 7 RX11 D aC ad sg A H0) {o : Int × Mem} (HR : ∀ (r : Int) (M1 : Mem) (H : Heap) (locs : List Loc) (pc : Nat) (ls : Array Slot), o = (r, M1) → inR r → WS D aC ad A H0 M1 H locs → decode cX11_lie pc = .ok (.ireturn, 1) → W p l e rm_X11_lie s m args below meth c H locs 1 3 Q (F0 m pc ls [.int (i2 r)])) (p1 : Int) (hp1 : inR p1) (p2 : Int) (hp2 : inR p2) (M : Mem) (hf : f_X11_lie p1 p2 M = some o) {H : Heap} {locs : List Loc} {ls : Array Slot} (hl : lv_has ls 7 [(0, .ref (ad 80)), (1, .int (i2 p1)), (2, .int (i2 p2))]) (w : WS D aC ad A H0 M H locs) : W p l e rm_X11_lie s m args below meth c H locs 0 0 Q (F0 m 0 ls []) := by
  have hx := X.1.1
  have hb := X.1.2.1
  unfold f_X11_lie at hf
  refine lv_aload_n hx hb dX11_lie_0 rfl (lv_at hl 0 rfl) ?_
  refine g_iconst X dX11_lie_1 ?_
  obtain ⟨M_2, eM_2, hf⟩ := lt_some hf
  refine g_puti X w fp_X11_139 KD_80 FR_80_0 (inL rfl) dX11_lie_2 (fun H locs w_M_2 => ?_)
  rw [← eM_2] at w_M_2
  refine lv_aload_n hx hb dX11_lie_5 rfl (lv_at hl 0 rfl) ?_
  refine lv_iload_n hx hb dX11_lie_6 rfl (lv_at hl 1 rfl) ?_
  obtain ⟨r, hc, hf⟩ := obn_some hf
  refine g_cvi (As := [.int (i2 p1)]) (rest := []) X w_M_2 (k_X11_isChild X.2.2.1 p1 hp1 w_M_2.2.2 hc) lk_X11_149 cl_11 KD_80 ⟨rfl, rfl⟩ ⟨nle rfl, nle rfl⟩ ⟨nle rfl, nle rfl⟩ hl.1 rfl (nle rfl) dX11_lie_7 (fun hr H locs w_M_2 => ?_)
  refine g_if_eq (tgt := 40) X hr dX11_lie_10 (by decide) (fun cd => ?_) (fun cd => ?_)
  · replace hf := ite_t cd hf
    refine g_iconst X dX11_lie_40 ?_
    exact b_X11_lie_j41 X  HR p1 hp1 p2 hp2 0 (inL rfl) M_2 hf hl w_M_2
  · replace hf := ite_f cd hf
    refine lv_iload_n hx hb dX11_lie_13 rfl (lv_at hl 2 rfl) ?_
    refine g_iconst X dX11_lie_14 ?_
    refine g_iconst X dX11_lie_15 ?_
    obtain ⟨r_2, hc, hf⟩ := obn_some hf
    refine g_csi (As := [.int (i2 p2), .int (i2 0), .int (i2 2)]) (rest := []) X w_M_2 (k_X11_within X.2.2.1 p2 hp2 0 (inL rfl) 2 (inL rfl) w_M_2.2.2 hc) lk_X11_145 ⟨rfl, rfl⟩ ⟨nle rfl, nle rfl⟩ ⟨nle rfl, nle rfl⟩ hl.1 rfl (nle rfl) dX11_lie_16 (fun hr_2 H locs w_M_2 => ?_)
    refine g_if_eq (tgt := 40) X hr_2 dX11_lie_19 (by decide) (fun cd_2 => ?_) (fun cd_2 => ?_)
    · replace hf := ite_t cd_2 hf
      refine g_iconst X dX11_lie_40 ?_
      exact b_X11_lie_j41 X  HR p1 hp1 p2 hp2 0 (inL rfl) M_2 hf hl w_M_2
    · replace hf := ite_f cd_2 hf
      refine lv_aload_n hx hb dX11_lie_22 rfl (lv_at hl 0 rfl) ?_
      refine g_getr X w_M_2 fg_X11_25 KD_80 FR_80_7 dX11_lie_23 ?_
      refine g_iconst X dX11_lie_26 ?_
      refine lv_iload_n hx hb dX11_lie_27 rfl (lv_at hl 1 rfl) ?_
      refine g_imul X dX11_lie_28 ?_
      refine lv_iload_n hx hb dX11_lie_29 rfl (lv_at hl 2 rfl) ?_
      refine g_iadd X dX11_lie_30 ?_
      obtain ⟨hg, hf⟩ := gd_some hf
      refine g_iald X w_M_2 KD_86 (inR_wrap _) hg dX11_lie_31 ?_
      refine g_iconst X dX11_lie_32 ?_
      refine g_icmp_eq (tgt := 40) X (w_M_2.2.2 _ _) (inL rfl) dX11_lie_33 (by decide) (fun cd_3 => ?_) (fun cd_3 => ?_)
      · replace hf := ite_t cd_3 hf
        refine g_iconst X dX11_lie_40 ?_
        exact b_X11_lie_j41 X  HR p1 hp1 p2 hp2 0 (inL rfl) M_2 hf hl w_M_2
      · replace hf := ite_f cd_3 hf
        refine g_iconst X dX11_lie_36 ?_
        refine lv_goto (tgt := 41) hx hb dX11_lie_37 (by decide) ?_
        exact b_X11_lie_j41 X  HR p1 hp1 p2 hp2 1 (inL rfl) M_2 hf hl w_M_2
set_option maxRecDepth 100000 in
set_option maxHeartbeats 4000000 in
theorem k_X11_lie {l : Launch} {D : va_G} {aC : Nat → ClassId} {ad : Nat → Nat} {sg : SG} (hi : Inj ad) (p1 : Int) (hp1 : inR p1) (p2 : Int) (hp2 : inR p2) {M : Mem} (hM : inM M) {r : Int} {M' : Mem} (hf : f_X11_lie p1 p2 M = some (r, M')) : MetI l D aC ad sg yX11_lie cX11_lie 7 (some .int) rm_X11_lie 1 3 [.ref (ad 80), .int (i2 p1), .int (i2 p2)] M r M' := by
  refine MetI.ofI (by decide +kernel) (nle rfl) hi hM (fun p e s m args below meth c Q H0 ls X hl w hret => ?_)
  exact b_X11_lie_0 X  (fun r1 M1 H locs pc ls eo hP w dg => by cases eo; exact hret H locs pc ls hP w dg) p1 hp1 p2 hp2 M hf hl w
end
