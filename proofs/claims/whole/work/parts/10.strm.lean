/-! the JDK's methods on String constants -/
section STRM
variable {l : Launch} {D : va_G} {aC : Nat → ClassId} {ad : Nat → Nat} {sg : SG} {M : Mem} {i : Nat}
def rm_S (f L : Nat) : Room := { frames := f, cells := 0, slots := 0, locals := L }
section
variable {p : Program} {e : Env} {R : Room} {s : State} {m : MethodId} {args : Array Value} {below : List Frame} {meth : Method} {c : Code} {H : Heap} {locs : List Loc} {cells slots : Nat} {Q : State → Prop}
variable {cc : ByteArray} {nL : Nat} {own : String} {A : Nat → Prop} {H0 : Heap} {M' : Mem} {pc : Nat} {ls : Array Slot} {rest : List Value}
variable {idx maxL mc ms n : Nat} {y : MethodName} {ck : ByteArray} {ret : Option FieldType} {rm : Room} {As st : List Value} {r : Int}
theorem str_recv (X : CX p s m args c cc nL own D aC ad sg A H0) (w : WS D aC ad A H0 M H locs) (hn : i < NS) : ∃ cell : Cell, H[sg.1 i]? = some cell ∧ cell.vm.isStatics = false ∧ s.vm.findClass "java/lang/String" = some cell.cls := by
  obtain ⟨cell, h1, h2, h3, -⟩ := (X.2.2.2.2.2.2.1 i hn).1.kept w.2.1.2.1
  exact ⟨cell, h1, h2, h3⟩
theorem g_cvs (X : CX p s m args c cc nL own D aC ad sg A H0) (w : WS D aC ad A H0 M H locs) (hn : i < NS) (hM : MetI l D aC ad sg y ck maxL ret rm mc ms (.ref (sg.1 i) :: As) M r M') (lk : LkV own idx y ck maxL ret As.length) (hy : y.cls = "java/lang/String") (hrm : rm.cells = mc ∧ rm.slots = ms) (hR : rm.frames + 1 ≤ R.frames ∧ 8 + (maxL + 11) + rm.locals ≤ R.locals) (hc : cells + mc ≤ R.cells ∧ slots + ms ≤ R.slots) (hln : ls.size = nL) (hst : st = As.reverse ++ .ref (sg.1 i) :: rest) (hr8 : (rest.map fun v => v.category).sum ≤ 8) (dg : decode cc pc = .ok (.invokevirtual idx, 3))
    (kk : inR r → ∀ (H1 : Heap) (locs1 : List Loc), WS D aC ad A H0 M' H1 locs1 → W p l e R s m args below meth c H1 locs1 (cells + mc) (slots + ms) Q (F0 m (pc + 3) ls (.int (i2 r) :: rest))) : W p l e R s m args below meth c H locs cells slots Q (F0 m pc ls st) := by
  have hF := AA_sub X w
  have hE := fun av => Ent.at (av := av) X w
  have hV := str_recv X w hn
  rw [← hy] at hV
  obtain ⟨S, hK, hi, hA⟩ := X
  have hts := S.2.2.2.2
  refine va_calli (va_runV (As := As) (rest := rest) S (hM H.size) ⟨lk_B hts lk.1 hrm hR, hts _ lk.2.1, hts _ lk.2.2⟩ ⟨Ent.blind, hV, hE _⟩ rfl rfl hln hst (lv_room hr8) dg hc) w.2.1 (fun q _ h => hF q h) hF (fun q u t H1 locs1 ht hvm hw hB hz hk hS => ?_)
  obtain ⟨rfl, h1, h2⟩ := hw
  rw [ht] at hB
  exact kk h1 H1 locs1 ⟨hB, hS, h2⟩
end
theorem kS_coder (hi : Inj ad) (hn : i < NS) (hM : inM M) : MetI l D aC ad sg yJ0_coder_7d493 cJ0_coder_7d493 1 (some .byte) (rm_S 0 0) 0 0 [.ref (sg.1 i)] M 0 M := by
  refine MetI.of (fun x => x = 0) (fun x h => by subst h; exact ⟨⟨by decide, by decide⟩, rfl⟩) (by decide +kernel) (nle rfl) hi hM (fun p e s m args below meth c Q H0 ls X hl w hret => ?_)
  obtain ⟨S, hK, hi2, hA, hA2, rfl, hSt⟩ := X
  obtain ⟨hx, hb, -, hown, hts⟩ := id S
  have hl : lv_has ls 1 [(0, .ref (sg.1 i))] := hl
  refine va_gets hx hb hSt.2.1 w.2.1 hown (hts _ fS_0_38) (fun _ h => h) dJ0_coder_7d493_0 ?_
  refine lv_if_eq (tgt := 13) hx hb dJ0_coder_7d493_3 (by decide) (fun h => absurd h (by decide)) (fun _ => ?_)
  refine lv_aload_n hx hb dJ0_coder_7d493_6 rfl (lv_at hl 0 rfl) ?_
  refine vk_getf hx hb (hSt.1 i hn).2.1 w.2.1 hown (hts _ fS_0_15) (fun _ h => h) dJ0_coder_7d493_7 ?_
  refine lv_goto (tgt := 14) hx hb dJ0_coder_7d493_10 (by decide) ?_
  exact hret _ _ _ _ rfl w dJ0_coder_7d493_14
theorem shr0 (x : Int32) : x >>> (i2 0 &&& 31) = x := by
  have h : i2 0 &&& 31 = 0 := by decide
  rw [h]; simp
theorem kS_length (hi : Inj ad) (hn : i < NS) (hM : inM M) : MetI l D aC ad sg yJ0_length_8abf5 cJ0_length_8abf5 1 (some .int) (rm_S 1 20) 0 0 [.ref (sg.1 i)] M (sLen i) M := by
  refine MetI.ofI (by decide +kernel) (nle rfl) hi hM (fun p e s m args below meth c Q H0 ls X hl w hret => ?_)
  obtain ⟨S, hK, hi2, hA, hA2, rfl, hSt⟩ := id X
  obtain ⟨hx, hb, -, hown, hts⟩ := id S
  have hl : lv_has ls 1 [(0, .ref (sg.1 i))] := hl
  refine lv_aload_n hx hb dJ0_length_8abf5_0 rfl (lv_at hl 0 rfl) ?_
  refine vk_getf hx hb (hSt.1 i hn).2.2.1 w.2.1 hown (hts _ fS_0_9) (fun _ h => h) dJ0_length_8abf5_1 ?_
  refine va_tlen hx hb (hSt.1 i hn).2.2.2.1 w.2.1 (v := i2 (sLen i : Int)) (Int32.ofInt_eq_ofNat).symm dJ0_length_8abf5_4 ?_
  refine lv_aload_n hx hb dJ0_length_8abf5_5 rfl (lv_at hl 0 rfl) ?_
  refine g_cvs (As := []) (rest := [.int (i2 (sLen i : Int))]) X w hn (kS_coder X.2.2.1 hn w.2.2) lS_0_335 rfl ⟨rfl, rfl⟩ ⟨nle rfl, nle rfl⟩ ⟨nle rfl, nle rfl⟩ hl.1 rfl (nle rfl) dJ0_length_8abf5_6 (fun _ H locs w => ?_)
  refine lv_ishr hx hb dJ0_length_8abf5_9 ?_
  rw [shr0]
  exact hret _ _ _ _ (sLen_R i) w dJ0_length_8abf5_10
theorem kS_isLatin1 (hi : Inj ad) (hn : i < NS) (hM : inM M) : MetI l D aC ad sg yJ0_isLatin1_aae02 cJ0_isLatin1_aae02 1 (some .boolean) (rm_S 0 0) 0 0 [.ref (sg.1 i)] M 1 M := by
  refine MetI.ofZ (by decide +kernel) (nle rfl) hi hM (fun p e s m args below meth c Q H0 ls X hl w hret => ?_)
  obtain ⟨S, hK, hi2, hA, hA2, rfl, hSt⟩ := X
  obtain ⟨hx, hb, -, hown, hts⟩ := id S
  have hl : lv_has ls 1 [(0, .ref (sg.1 i))] := hl
  refine va_gets hx hb hSt.2.1 w.2.1 hown (hts _ fS_0_38) (fun _ h => h) dJ0_isLatin1_aae02_0 ?_
  refine lv_if_eq (tgt := 17) hx hb dJ0_isLatin1_aae02_3 (by decide) (fun h => absurd h (by decide)) (fun _ => ?_)
  refine lv_aload_n hx hb dJ0_isLatin1_aae02_6 rfl (lv_at hl 0 rfl) ?_
  refine vk_getf hx hb (hSt.1 i hn).2.1 w.2.1 hown (hts _ fS_0_15) (fun _ h => h) dJ0_isLatin1_aae02_7 ?_
  refine lv_if_ne (tgt := 17) hx hb dJ0_isLatin1_aae02_10 (by decide) (fun h => absurd rfl h) (fun _ => ?_)
  refine lv_iconst (v := i2 1) hx hb dJ0_isLatin1_aae02_13 rfl ?_
  refine lv_goto (tgt := 18) hx hb dJ0_isLatin1_aae02_14 (by decide) ?_
  exact hret _ _ _ _ (Or.inr rfl) w dJ0_isLatin1_aae02_18
theorem kS_pcheck (hi : Inj ad) {x n : Int} {v : Value} (hv : v = .null ∨ ∃ t, v = .ref t) (hx0 : inR x) (hn0 : inR n) (h : 0 ≤ x ∧ x < n) (hM : inM M) : MetI l D aC ad sg yJ3_checkIndex_8e157 cJ3_checkIndex_8e157 3 (some .int) (rm_S 0 0) 0 0 [.int (i2 x), .int (i2 n), v] M x M := by
  refine MetI.ofI (by decide +kernel) (by rcases hv with rfl | ⟨t, rfl⟩ <;> exact nle rfl) hi hM (fun p e s m args below meth c Q H0 ls X hl w hret => ?_)
  obtain ⟨S, hK, hi2, hA, hA2, rfl, hSt⟩ := id X
  obtain ⟨hx, hb, -, hown, hts⟩ := id S
  have hl : lv_has ls 3 [(0, .int (i2 x)), (1, .int (i2 n))] := by
    rcases hv with rfl | ⟨t, rfl⟩
    · exact lv_sub (l' := [(0, .int (i2 x)), (1, .int (i2 n))]) hl [0, 1] rfl
    · exact lv_sub (l' := [(0, .int (i2 x)), (1, .int (i2 n))]) hl [0, 1] rfl
  refine lv_iload_n hx hb dJ3_checkIndex_8e157_0 rfl (lv_at hl 0 rfl) ?_
  refine g_if_lt (tgt := 9) X hx0 dJ3_checkIndex_8e157_1 (by decide) (fun q => absurd q (by omega)) (fun _ => ?_)
  refine lv_iload_n hx hb dJ3_checkIndex_8e157_4 rfl (lv_at hl 0 rfl) ?_
  refine lv_iload_n hx hb dJ3_checkIndex_8e157_5 rfl (lv_at hl 1 rfl) ?_
  refine g_icmp_lt (tgt := 16) X hx0 hn0 dJ3_checkIndex_8e157_6 (by decide) (fun _ => ?_) (fun q => absurd h.2 q)
  refine lv_iload_n hx hb dJ3_checkIndex_8e157_16 rfl (lv_at hl 0 rfl) ?_
  exact hret _ _ _ _ hx0 w dJ3_checkIndex_8e157_17
theorem kS_scheck (hi : Inj ad) {x n : Int} (hx0 : inR x) (hn0 : inR n) (h : 0 ≤ x ∧ x < n) (hM : inM M) : MetV l D aC ad sg yJ0_checkIndex_df160 cJ0_checkIndex_df160 2 (rm_S 1 22) 0 0 [.int (i2 x), .int (i2 n)] M M := by
  refine MetV.of (by decide +kernel) (nle rfl) hi hM (fun p e s m args below meth c Q H0 ls X hl w hret => ?_)
  obtain ⟨S, hK, hi2, hA, hA2, rfl, hSt⟩ := id X
  obtain ⟨hx, hb, -, hown, hts⟩ := id S
  have hl : lv_has ls 2 [(0, .int (i2 x)), (1, .int (i2 n))] := hl
  refine lv_iload_n hx hb dJ0_checkIndex_df160_0 rfl (lv_at hl 0 rfl) ?_
  refine lv_iload_n hx hb dJ0_checkIndex_df160_1 rfl (lv_at hl 1 rfl) ?_
  obtain ⟨v, hv, hZ⟩ : ∃ v : Value, (v = .null ∨ ∃ t, v = .ref t) ∧ va_Z "jdk/internal/util/Preconditions" "SIOOBE_FORMATTER" "Ljava/util/function/BiFunction;" v (AA ad s.heap.size) s s.heap := by
    rcases hSt.2.2.1 with q | ⟨t, q⟩
    · exact ⟨_, Or.inl rfl, q⟩
    · exact ⟨_, Or.inr ⟨t, rfl⟩, q⟩
  refine va_gets hx hb hZ w.2.1 hown (hts _ fS_0_1053) (fun _ h => h) dJ0_checkIndex_df160_2 ?_
  refine g_csi (As := [.int (i2 x), .int (i2 n), v]) (rest := []) X w (kS_pcheck X.2.2.1 hv hx0 hn0 h w.2.2) lS_0_1059 ⟨rfl, rfl⟩ ⟨nle rfl, nle rfl⟩ ⟨nle rfl, nle rfl⟩ hl.1 rfl (nle rfl) dJ0_checkIndex_df160_5 (fun _ H locs w => ?_)
  refine lv_pop hx hb dJ0_checkIndex_df160_8 rfl ?_
  exact hret _ _ _ _ w dJ0_checkIndex_df160_9
theorem lat_char {x : Int} (h : 0 ≤ x ∧ x < 128) : ((i2 x &&& i2 255).toUInt32 % 65536).toInt32 = i2 x := by
  obtain ⟨k, rfl⟩ : ∃ k : Nat, x = k := ⟨x.toNat, by omega⟩
  have hk : k < 128 := by omega
  have : ∀ k, k < 128 → ((Int32.ofNat k &&& i2 255).toUInt32 % 65536).toInt32 = Int32.ofNat k := by decide +kernel
  rw [show i2 (k : Int) = Int32.ofNat k from Int32.ofInt_eq_ofNat]
  exact this k hk
theorem kS_lcharAt (hi : Inj ad) {x : Int} (hn : i < NS) (hx0 : inR x) (h : 0 ≤ x ∧ x < (sLen i : Int)) (hM : inM M) : MetI l D aC ad sg yJ1_charAt_3b067 cJ1_charAt_3b067 2 (some .char) (rm_S 2 50) 0 0 [.ref (sg.2 i), .int (i2 x)] M (sAt i x.toNat) M := by
  refine MetI.of (fun q => 0 ≤ q ∧ q < 128) (fun q h => ⟨⟨by omega, by omega⟩, ?_⟩) (by decide +kernel) (nle rfl) hi hM (fun p e s m args below meth c Q H0 ls X hl w hret => ?_)
  · have e := nar_char (x := q) (by omega)
    show Value.int (vp_nar .char (i2 q)) = .int (i2 q)
    rw [e]
  obtain ⟨S, hK, hi2, hA, hA2, rfl, hSt⟩ := id X
  obtain ⟨hx, hb, -, hown, hts⟩ := id S
  have hl : lv_has ls 2 [(0, .ref (sg.2 i)), (1, .int (i2 x))] := hl
  refine lv_iload_n hx hb dJ1_charAt_3b067_0 rfl (lv_at hl 1 rfl) ?_
  refine lv_aload_n hx hb dJ1_charAt_3b067_1 rfl (lv_at hl 0 rfl) ?_
  refine va_tlen hx hb (hSt.1 i hn).2.2.2.1 w.2.1 (v := i2 (sLen i : Int)) (Int32.ofInt_eq_ofNat).symm dJ1_charAt_3b067_2 ?_
  refine g_csv (As := [.int (i2 x), .int (i2 (sLen i : Int))]) (rest := []) X w (kS_scheck X.2.2.1 hx0 (sLen_R i) h w.2.2) lS_1_9 ⟨rfl, rfl⟩ ⟨nle rfl, nle rfl⟩ ⟨nle rfl, nle rfl⟩ hl.1 rfl (nle rfl) dJ1_charAt_3b067_3 (fun H locs w => ?_)
  refine lv_aload_n hx hb dJ1_charAt_3b067_6 rfl (lv_at hl 0 rfl) ?_
  refine lv_iload_n hx hb dJ1_charAt_3b067_7 rfl (lv_at hl 1 rfl) ?_
  refine va_tb hx hb (hSt.1 i hn).2.2.2.1 w.2.1 (i2_in hx0 h) (v := .int (i2 (sAt i x.toNat))) (by rw [i2_clamp hx0]) dJ1_charAt_3b067_8 ?_
  refine g_sipush X dJ1_charAt_3b067_9 (by decide) ?_
  refine lv_iand hx hb dJ1_charAt_3b067_12 ?_
  refine lv_i2c (v := i2 (sAt i x.toNat)) hx hb dJ1_charAt_3b067_13 (lat_char (sAt_b _ _)) ?_
  exact hret _ _ _ _ (sAt_b _ _) w dJ1_charAt_3b067_14
theorem kS_charAt (hi : Inj ad) {x : Int} (hn : i < NS) (hx0 : inR x) (h : 0 ≤ x ∧ x < (sLen i : Int)) (hM : inM M) : MetI l D aC ad sg yJ0_charAt_5068e cJ0_charAt_5068e 2 (some .char) (rm_S 3 80) 0 0 [.ref (sg.1 i), .int (i2 x)] M (sAt i x.toNat) M := by
  refine MetI.of (fun q => 0 ≤ q ∧ q < 128) (fun q h => ⟨⟨by omega, by omega⟩, ?_⟩) (by decide +kernel) (nle rfl) hi hM (fun p e s m args below meth c Q H0 ls X hl w hret => ?_)
  · have e := nar_char (x := q) (by omega)
    show Value.int (vp_nar .char (i2 q)) = .int (i2 q)
    rw [e]
  obtain ⟨S, hK, hi2, hA, hA2, rfl, hSt⟩ := id X
  obtain ⟨hx, hb, -, hown, hts⟩ := id S
  have hl : lv_has ls 2 [(0, .ref (sg.1 i)), (1, .int (i2 x))] := hl
  refine lv_aload_n hx hb dJ0_charAt_5068e_0 rfl (lv_at hl 0 rfl) ?_
  refine g_cvs (As := []) (rest := []) X w hn (kS_isLatin1 X.2.2.1 hn w.2.2) lS_0_492 rfl ⟨rfl, rfl⟩ ⟨nle rfl, nle rfl⟩ ⟨nle rfl, nle rfl⟩ hl.1 rfl (nle rfl) dJ0_charAt_5068e_1 (fun _ H locs w => ?_)
  refine g_if_eq (tgt := 16) X (inL rfl) dJ0_charAt_5068e_4 (by decide) (fun q => absurd q (by decide)) (fun _ => ?_)
  refine lv_aload_n hx hb dJ0_charAt_5068e_7 rfl (lv_at hl 0 rfl) ?_
  refine vk_getf hx hb (hSt.1 i hn).2.2.1 w.2.1 hown (hts _ fS_0_9) (fun _ h => h) dJ0_charAt_5068e_8 ?_
  refine lv_iload_n hx hb dJ0_charAt_5068e_11 rfl (lv_at hl 1 rfl) ?_
  refine g_csi (As := [.ref (sg.2 i), .int (i2 x)]) (rest := []) X w (kS_lcharAt X.2.2.1 hn hx0 h w.2.2) lS_0_495 ⟨rfl, rfl⟩ ⟨nle rfl, nle rfl⟩ ⟨nle rfl, nle rfl⟩ hl.1 rfl (nle rfl) dJ0_charAt_5068e_12 (fun _ H locs w => ?_)
  exact hret _ _ _ _ (sAt_b _ _) w dJ0_charAt_5068e_15
section
variable {p : Program} {e : Env} {R : Room} {s : State} {m : MethodId} {args : Array Value} {below : List Frame} {meth : Method} {c : Code} {H : Heap} {locs : List Loc} {cells slots : Nat} {Q : State → Prop}
variable {cc : ByteArray} {nL : Nat} {own : String} {A : Nat → Prop} {H0 : Heap} {pc : Nat} {ls : Array Slot} {rest : List Value}
theorem g_slen {idx : Nat} (X : CX p s m args c cc nL own D aC ad sg A H0) (w : WS D aC ad A H0 M H locs) (hi : i < NS) (lk : LkV own idx yJ0_length_8abf5 cJ0_length_8abf5 1 (some .int) 0) (hln : ls.size = nL) (hR : 6 ≤ R.frames ∧ 200 ≤ R.locals) (hc : cells + 0 ≤ R.cells ∧ slots + 0 ≤ R.slots) (hr8 : (rest.map fun v => v.category).sum ≤ 8) (dg : decode cc pc = .ok (.invokevirtual idx, 3))
    (kk : ∀ (H1 : Heap) (locs1 : List Loc), WS D aC ad A H0 M H1 locs1 → W p l e R s m args below meth c H1 locs1 cells slots Q (F0 m (pc + 3) ls (.int (i2 (sLen i : Int)) :: rest))) : W p l e R s m args below meth c H locs cells slots Q (F0 m pc ls (.ref (sg.1 i) :: rest)) :=
  g_cvs (As := []) (rest := rest) X w hi (kS_length X.2.2.1 hi w.2.2) lk rfl ⟨rfl, rfl⟩ ⟨Nat.le_trans (nle rfl) hR.1, Nat.le_trans (nle rfl) hR.2⟩ hc hln rfl hr8 dg (fun _ H1 locs1 w1 => kk H1 locs1 w1)
theorem g_schar {idx : Nat} {x : Int} (X : CX p s m args c cc nL own D aC ad sg A H0) (w : WS D aC ad A H0 M H locs) (hi : i < NS) (hx0 : inR x) (hin : 0 ≤ x ∧ x < (sLen i : Int)) (lk : LkV own idx yJ0_charAt_5068e cJ0_charAt_5068e 2 (some .char) 1) (hln : ls.size = nL) (hR : 6 ≤ R.frames ∧ 200 ≤ R.locals) (hc : cells + 0 ≤ R.cells ∧ slots + 0 ≤ R.slots) (hr8 : (rest.map fun v => v.category).sum ≤ 8) (dg : decode cc pc = .ok (.invokevirtual idx, 3))
    (kk : ∀ (H1 : Heap) (locs1 : List Loc), WS D aC ad A H0 M H1 locs1 → W p l e R s m args below meth c H1 locs1 cells slots Q (F0 m (pc + 3) ls (.int (i2 (sAt i x.toNat)) :: rest))) : W p l e R s m args below meth c H locs cells slots Q (F0 m pc ls (.int (i2 x) :: .ref (sg.1 i) :: rest)) :=
  g_cvs (As := [.int (i2 x)]) (rest := rest) X w hi (kS_charAt X.2.2.1 hi hx0 hin w.2.2) lk rfl ⟨rfl, rfl⟩ ⟨Nat.le_trans (nle rfl) hR.1, Nat.le_trans (nle rfl) hR.2⟩ hc hln rfl hr8 dg (fun _ H1 locs1 w1 => kk H1 locs1 w1)
end
end STRM
