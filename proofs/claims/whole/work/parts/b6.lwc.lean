/-! the law, a call at a time -/
def sc (xs : Nat → Int32) (i k : Int) : Int := (xs (i + k).toNat).toInt
theorem inR_sc {xs : Nat → Int32} {i k : Int} : inR (sc xs i k) := inR_toInt _
abbrev lvL (b : Nat) (ad : Nat → Nat) (i : Int) : List (Nat × Value) := [(0, .ref b), (1, .ref (ad 0)), (2, .ref (ad 80)), (3, .ref (ad 120)), (4, .int (i2 i))]
def nz (v : Int) : Int := if v = 0 then 0 else 1
theorem nz_Z {v : Int} : isZ (nz v) := by
  unfold nz
  split
  · exact Or.inl rfl
  · exact Or.inr rfl
theorem nz_R {v : Int} : inR (nz v) := nz_Z.inR
theorem pr_of {M M1 : Mem} {x : Option Int} {r : Int} (h : pr M x = some (r, M1)) : x = some r ∧ M1 = M := by
  obtain ⟨r2, h1, h2⟩ := obn_some h
  cases h2
  exact ⟨h1, rfl⟩
section LAWR
variable {p : Program} {l : Launch} {e : Env} {R : Room} {s : State} {m : MethodId} {args : Array Value} {below : List Frame} {meth : Method} {c : Code} {H : Heap} {locs : List Loc} {cells slots : Nat} {Q : State → Prop}
variable {D : va_G} {aC : Nat → ClassId} {ad : Nat → Nat} {sg : SG} {A : Nat → Prop} {H0 : Heap} {M : Mem} {pc : Nat} {ls : Array Slot} {rest : List Value} {b L : Nat} {xs : Nat → Int32}
theorem g_sc {k i : Int} (X : CX p s m args c cL_law 7 RL D aC ad sg A H0) (w : WS D aC ad A H0 M H locs) (hX : va_X b L xs s H0) (hbl : b < H0.size) (hbA : ¬ A b) (h0 : ls[0]? = some (.val (.ref b))) (h4 : ls[4]? = some (.val (.int (i2 i)))) (hi : 0 ≤ i ∧ i + 6 ≤ (L : Int) ∧ L ≤ 3072) (hk : 0 ≤ k ∧ k < 6) (d0 : decode cL_law pc = .ok (.aload_n 0, 1)) (d1 : decode cL_law (pc + 1) = .ok (.iload 4, 2)) (d2 : decode cL_law (pc + 3) = .ok (.iconst k, 1)) (d3 : decode cL_law (pc + 4) = .ok (.iadd, 1)) (d4 : decode cL_law (pc + 5) = .ok (.iaload, 1))
    (kk : W p l e R s m args below meth c H locs cells slots Q (F0 m (pc + 6) ls (.int (i2 (sc xs i k)) :: rest))) : W p l e R s m args below meth c H locs cells slots Q (F0 m pc ls rest) := by
  have hx := X.1.1
  have hb := X.1.2.1
  refine lv_aload_n hx hb d0 rfl h0 ?_
  refine lv_iload hx hb d1 h4 ?_
  refine g_iconst X d2 ?_
  refine g_iadd X d3 ?_
  have e1 : wrap (i + k) = i + k := wrap_of (by omega) (by omega)
  have hr : inR (i + k) := ⟨by omega, by omega⟩
  rw [e1]
  refine va_sld hx hb hX hbl hbA w.2.1 (i2_in hr (by omega)) d4 ?_
  rw [i2_clamp hr]
  unfold sc at kk
  rw [i2_of] at kk
  exact kk
theorem g_sc0 {i : Int} (X : CX p s m args c cL_law 7 RL D aC ad sg A H0) (w : WS D aC ad A H0 M H locs) (hX : va_X b L xs s H0) (hbl : b < H0.size) (hbA : ¬ A b) (h0 : ls[0]? = some (.val (.ref b))) (h4 : ls[4]? = some (.val (.int (i2 i)))) (hi : 0 ≤ i ∧ i + 6 ≤ (L : Int) ∧ L ≤ 3072) (d0 : decode cL_law pc = .ok (.aload_n 0, 1)) (d1 : decode cL_law (pc + 1) = .ok (.iload 4, 2)) (d4 : decode cL_law (pc + 3) = .ok (.iaload, 1))
    (kk : W p l e R s m args below meth c H locs cells slots Q (F0 m (pc + 4) ls (.int (i2 (sc xs i 0)) :: rest))) : W p l e R s m args below meth c H locs cells slots Q (F0 m pc ls rest) := by
  have hx := X.1.1
  have hb := X.1.2.1
  refine lv_aload_n hx hb d0 rfl h0 ?_
  refine lv_iload hx hb d1 h4 ?_
  have hr : inR i := ⟨by omega, by omega⟩
  refine va_sld hx hb hX hbl hbA w.2.1 (i2_in hr (by omega)) d4 ?_
  rw [i2_clamp hr]
  unfold sc at kk
  rw [i2_of, Int.add_zero] at kk
  exact kk
theorem g_nz (X : CX p s m args c cL_law 7 RL D aC ad sg A H0) {v : Int} (hv : inR v) (d0 : decode cL_law pc = .ok (.ifCond .eq 7, 3)) (d1 : decode cL_law (pc + 3) = .ok (.iconst 1, 1)) (d2 : decode cL_law (pc + 4) = .ok (.goto 4, 3)) (d3 : decode cL_law (pc + 7) = .ok (.iconst 0, 1))
    (kk : W p l e R s m args below meth c H locs cells slots Q (F0 m (pc + 8) ls (.int (i2 (nz v)) :: rest))) : W p l e R s m args below meth c H locs cells slots Q (F0 m pc ls (.int (i2 v) :: rest)) := by
  refine g_if_eq (tgt := pc + 7) X hv d0 (by omega) (fun h => ?_) (fun h => ?_)
  · refine g_iconst X d3 ?_
    rw [show nz v = 0 from if_pos h] at kk
    exact kk
  · refine g_iconst X d1 ?_
    refine lv_goto (tgt := pc + 8) X.1.1 X.1.2.1 d2 (by omega) ?_
    rw [show nz v = 1 from if_neg h] at kk
    exact kk
/-- a static helper of the law with a table of handlers, that never throws -/
theorem g_cL {idx maxL mc ms : Nat} {y : MethodName} {ck : ByteArray} {hh : List (Nat × Nat × Nat × Nat)} {rm : Room} {As st : List Value} {own : String} {cc : ByteArray} {nL : Nat} {r : Int} {M' : Mem} (X : CX p s m args c cc nL own D aC ad sg A H0) (hZ : vxZ A s s.heap) (hN : vxN s) (w : WS D aC ad A H0 M H locs)
    (hM : ∀ sz : Nat, vx_Met l y (.codeWith y ck maxL (some .int) hh :: BW) rm (va_Pc As (EntX D aC ad sg M sz)) (va_Qi (fun q (_ : Unit) => q = i2 r ∧ inM M') (fun _ t => va_P D vwCl (wl aC ad M') t.heap) (AA ad sz)) (fun _ _ _ => False) mc ms (AA ad sz))
    (lk : Cond.codeWith y ck maxL (some .int) hh ∈ BW ∧ Cond.methodLink own idx y ∈ BW ∧ Cond.static y ∈ BW ∧ Cond.initialized y.cls ∈ BW ∧ (y.cls ≠ "java/lang/invoke/MethodHandle" ∧ y.cls ≠ "java/lang/invoke/VarHandle" ∧ (parseMethodDescriptor y.desc).map (fun d => d.parameters.length) = some As.length)) (hrm : rm.cells = mc ∧ rm.slots = ms) (hR : rm.frames + 1 ≤ R.frames ∧ 8 + (maxL + 11) + rm.locals ≤ R.locals) (hc : cells + mc ≤ R.cells ∧ slots + ms ≤ R.slots) (hln : ls.size = nL) (hst : st = As.reverse ++ rest) (hr8 : (rest.map fun v => v.category).sum ≤ 8) (dg : decode cc pc = .ok (.invokestatic idx, 3))
    (kk : ∀ (H1 : Heap) (locs1 : List Loc), WS D aC ad A H0 M' H1 locs1 → W p l e R s m args below meth c H1 locs1 (cells + mc) (slots + ms) Q (F0 m (pc + 3) ls (.int (i2 r) :: rest))) : W p l e R s m args below meth c H locs cells slots Q (F0 m pc ls st) := by
  have hF := AA_sub X w
  have hE := fun av => EntX.at (av := av) X hZ hN w
  have S := X.1
  have hts := S.2.2.2.2
  have hG : GoodIn BW (.codeWith y ck maxL (some .int) hh :: BW) := by
    intro w hw
    rcases List.mem_cons.mp hw with rfl | h2
    · exact ⟨lk.1, BW_good lk.1⟩
    · exact ⟨h2, BW_good h2⟩
  have hr := vx_runSX (As := As) (rest := rest) (H := H) (locs := locs) (cells := cells) (slots := slots) (e := e) (below := below) (meth := meth) (R := R) (g := F0 m pc ls st) (n := As.length) (index := idx) S (hM H.size) ⟨⟨hrm.1, hrm.2, hR.1, hR.2, pay_in hts hG, List.mem_cons_self⟩, hts _ lk.1, hts _ lk.2.2.2.1, ⟨lk.2.2.2.2.1, lk.2.2.2.2.2.1⟩, fun sig h => by
    have h2 := lk.2.2.2.2.2.2
    rw [h] at h2
    exact (Option.some.inj h2).symm, hts _ lk.2.1, hts _ lk.2.2.1⟩ ⟨EntX.blind, hE _⟩ rfl rfl hln hst (lv_room hr8) dg hc
  have hr2 : va_Run p l e R s m args below meth c H locs cells slots mc ms (F0 m pc ls st) rest (va_Qi (fun q (_ : Unit) => q = i2 r ∧ inM M') (fun _ t => va_P D vwCl (wl aC ad M') t.heap) (AA ad H.size) As.toArray) (AA ad H.size) := fun T hT Y => (hr T hT Y).resolve_right (fun ⟨_, _, _, _, _, _, _, _, _, _, _, _, hf, _⟩ => hf)
  refine va_calli hr2 w.2.1 (fun q _ h => hF q h) hF (fun q u t H1 locs1 ht hvm hw hB hz hk hS => ?_)
  obtain ⟨rfl, h2⟩ := hw
  rw [ht] at hB
  exact kk H1 locs1 ⟨hB, hS, h2⟩
theorem g_lald {a n : Nat} {i : Int} (X : CX p s m args c cL_law 7 RL D aC ad sg A H0) (w : WS D aC ad A H0 M H locs) (ho : KD[a]? = some (.inr (4, n))) (hr : inR i) (hin : 0 ≤ i ∧ i < n) (dg : decode cL_law pc = .ok (.laload, 1))
    (kk : W p l e R s m args below meth c H locs cells slots Q (F0 m (pc + 1) ls (.long (Int64.ofInt (M a i.toNat)) :: rest))) : W p l e R s m args below meth c H locs cells slots Q (F0 m pc ls (.int (i2 i) :: .ref (ad a) :: rest)) := by
  obtain ⟨⟨hx, hb, hml, hown, hts⟩, hK, hi, hA, hA2, hSt⟩ := X
  refine va_lald hx hb hK w.1 a 4 ((wl_get (KD_lt ho)).trans (by rw [enc_l ho])) rfl (i2_in hr hin) dg ?_
  rw [i2_clamp hr]; exact kk
end LAWR
theorem lw10_child : LkV RL 22 yX10_child cX10_child 4 (some .int) 3 := ⟨⟨(BW_in (List.mem_of_getElem? (i := 617) (by decide +kernel)) rfl), (BW_in (List.mem_of_getElem? (i := 614) (by decide +kernel)) rfl), (BW_in (List.mem_of_getElem? (i := 98) (by decide +kernel)) rfl), ⟨by decide +kernel, by decide +kernel, by decide +kernel⟩⟩, (BW_in (List.mem_of_getElem? (i := 615) (by decide +kernel)) rfl), (BW_in (List.mem_of_getElem? (i := 616) (by decide +kernel)) rfl)⟩
theorem lw11_child : LkV RL 26 yX11_child cX11_child 4 (some .int) 3 := ⟨⟨(BW_in (List.mem_of_getElem? (i := 1567) (by decide +kernel)) rfl), (BW_in (List.mem_of_getElem? (i := 1564) (by decide +kernel)) rfl), (BW_in (List.mem_of_getElem? (i := 110) (by decide +kernel)) rfl), ⟨by decide +kernel, by decide +kernel, by decide +kernel⟩⟩, (BW_in (List.mem_of_getElem? (i := 1565) (by decide +kernel)) rfl), (BW_in (List.mem_of_getElem? (i := 1566) (by decide +kernel)) rfl)⟩
theorem lw10_mark : LkV RL 27 yX10_mark cX10_mark 5 (some .boolean) 4 := ⟨⟨(BW_in (List.mem_of_getElem? (i := 628) (by decide +kernel)) rfl), (BW_in (List.mem_of_getElem? (i := 625) (by decide +kernel)) rfl), (BW_in (List.mem_of_getElem? (i := 98) (by decide +kernel)) rfl), ⟨by decide +kernel, by decide +kernel, by decide +kernel⟩⟩, (BW_in (List.mem_of_getElem? (i := 626) (by decide +kernel)) rfl), (BW_in (List.mem_of_getElem? (i := 627) (by decide +kernel)) rfl)⟩
theorem lw11_mark : LkV RL 31 yX11_mark cX11_mark 5 (some .boolean) 4 := ⟨⟨(BW_in (List.mem_of_getElem? (i := 1610) (by decide +kernel)) rfl), (BW_in (List.mem_of_getElem? (i := 1607) (by decide +kernel)) rfl), (BW_in (List.mem_of_getElem? (i := 110) (by decide +kernel)) rfl), ⟨by decide +kernel, by decide +kernel, by decide +kernel⟩⟩, (BW_in (List.mem_of_getElem? (i := 1608) (by decide +kernel)) rfl), (BW_in (List.mem_of_getElem? (i := 1609) (by decide +kernel)) rfl)⟩
theorem lw10_wish : LkV RL 32 yX10_wish cX10_wish 4 (some .boolean) 3 := ⟨⟨(BW_in (List.mem_of_getElem? (i := 640) (by decide +kernel)) rfl), (BW_in (List.mem_of_getElem? (i := 637) (by decide +kernel)) rfl), (BW_in (List.mem_of_getElem? (i := 98) (by decide +kernel)) rfl), ⟨by decide +kernel, by decide +kernel, by decide +kernel⟩⟩, (BW_in (List.mem_of_getElem? (i := 638) (by decide +kernel)) rfl), (BW_in (List.mem_of_getElem? (i := 639) (by decide +kernel)) rfl)⟩
theorem lw11_wish : LkV RL 36 yX11_wish cX11_wish 4 (some .boolean) 3 := ⟨⟨(BW_in (List.mem_of_getElem? (i := 1574) (by decide +kernel)) rfl), (BW_in (List.mem_of_getElem? (i := 1571) (by decide +kernel)) rfl), (BW_in (List.mem_of_getElem? (i := 110) (by decide +kernel)) rfl), ⟨by decide +kernel, by decide +kernel, by decide +kernel⟩⟩, (BW_in (List.mem_of_getElem? (i := 1572) (by decide +kernel)) rfl), (BW_in (List.mem_of_getElem? (i := 1573) (by decide +kernel)) rfl)⟩
theorem lw10_bar : LkV RL 37 yX10_bar cX10_bar 4 (some .boolean) 3 := ⟨⟨(BW_in (List.mem_of_getElem? (i := 649) (by decide +kernel)) rfl), (BW_in (List.mem_of_getElem? (i := 646) (by decide +kernel)) rfl), (BW_in (List.mem_of_getElem? (i := 98) (by decide +kernel)) rfl), ⟨by decide +kernel, by decide +kernel, by decide +kernel⟩⟩, (BW_in (List.mem_of_getElem? (i := 647) (by decide +kernel)) rfl), (BW_in (List.mem_of_getElem? (i := 648) (by decide +kernel)) rfl)⟩
theorem lw11_bar : LkV RL 41 yX11_bar cX11_bar 4 (some .boolean) 3 := ⟨⟨(BW_in (List.mem_of_getElem? (i := 1586) (by decide +kernel)) rfl), (BW_in (List.mem_of_getElem? (i := 1583) (by decide +kernel)) rfl), (BW_in (List.mem_of_getElem? (i := 110) (by decide +kernel)) rfl), ⟨by decide +kernel, by decide +kernel, by decide +kernel⟩⟩, (BW_in (List.mem_of_getElem? (i := 1584) (by decide +kernel)) rfl), (BW_in (List.mem_of_getElem? (i := 1585) (by decide +kernel)) rfl)⟩
theorem lw10_twins : LkV RL 42 yX10_twins cX10_twins 4 (some .boolean) 3 := ⟨⟨(BW_in (List.mem_of_getElem? (i := 659) (by decide +kernel)) rfl), (BW_in (List.mem_of_getElem? (i := 656) (by decide +kernel)) rfl), (BW_in (List.mem_of_getElem? (i := 98) (by decide +kernel)) rfl), ⟨by decide +kernel, by decide +kernel, by decide +kernel⟩⟩, (BW_in (List.mem_of_getElem? (i := 657) (by decide +kernel)) rfl), (BW_in (List.mem_of_getElem? (i := 658) (by decide +kernel)) rfl)⟩
theorem lw11_twins : LkV RL 45 yX11_twins cX11_twins 4 (some .boolean) 3 := ⟨⟨(BW_in (List.mem_of_getElem? (i := 1594) (by decide +kernel)) rfl), (BW_in (List.mem_of_getElem? (i := 1591) (by decide +kernel)) rfl), (BW_in (List.mem_of_getElem? (i := 110) (by decide +kernel)) rfl), ⟨by decide +kernel, by decide +kernel, by decide +kernel⟩⟩, (BW_in (List.mem_of_getElem? (i := 1592) (by decide +kernel)) rfl), (BW_in (List.mem_of_getElem? (i := 1593) (by decide +kernel)) rfl)⟩
theorem lw10_not : LkV RL 46 yX10_not cX10_not 4 (some .boolean) 3 := ⟨⟨(BW_in (List.mem_of_getElem? (i := 663) (by decide +kernel)) rfl), (BW_in (List.mem_of_getElem? (i := 660) (by decide +kernel)) rfl), (BW_in (List.mem_of_getElem? (i := 98) (by decide +kernel)) rfl), ⟨by decide +kernel, by decide +kernel, by decide +kernel⟩⟩, (BW_in (List.mem_of_getElem? (i := 661) (by decide +kernel)) rfl), (BW_in (List.mem_of_getElem? (i := 662) (by decide +kernel)) rfl)⟩
theorem lw11_not : LkV RL 49 yX11_not cX11_not 4 (some .boolean) 3 := ⟨⟨(BW_in (List.mem_of_getElem? (i := 1598) (by decide +kernel)) rfl), (BW_in (List.mem_of_getElem? (i := 1595) (by decide +kernel)) rfl), (BW_in (List.mem_of_getElem? (i := 110) (by decide +kernel)) rfl), ⟨by decide +kernel, by decide +kernel, by decide +kernel⟩⟩, (BW_in (List.mem_of_getElem? (i := 1596) (by decide +kernel)) rfl), (BW_in (List.mem_of_getElem? (i := 1597) (by decide +kernel)) rfl)⟩
theorem lw10_classes : LkV RL 50 yX10_classes cX10_classes 3 (some .boolean) 1 := ⟨⟨(BW_in (List.mem_of_getElem? (i := 667) (by decide +kernel)) rfl), (BW_in (List.mem_of_getElem? (i := 664) (by decide +kernel)) rfl), (BW_in (List.mem_of_getElem? (i := 98) (by decide +kernel)) rfl), ⟨by decide +kernel, by decide +kernel, by decide +kernel⟩⟩, (BW_in (List.mem_of_getElem? (i := 665) (by decide +kernel)) rfl), (BW_in (List.mem_of_getElem? (i := 666) (by decide +kernel)) rfl)⟩
theorem lw11_classes : LkV RL 54 yX11_classes cX11_classes 3 (some .boolean) 1 := ⟨⟨(BW_in (List.mem_of_getElem? (i := 1602) (by decide +kernel)) rfl), (BW_in (List.mem_of_getElem? (i := 1599) (by decide +kernel)) rfl), (BW_in (List.mem_of_getElem? (i := 110) (by decide +kernel)) rfl), ⟨by decide +kernel, by decide +kernel, by decide +kernel⟩⟩, (BW_in (List.mem_of_getElem? (i := 1600) (by decide +kernel)) rfl), (BW_in (List.mem_of_getElem? (i := 1601) (by decide +kernel)) rfl)⟩
theorem lw10_room : LkV RL 55 yX10_room cX10_room 3 (some .boolean) 2 := ⟨⟨(BW_in (List.mem_of_getElem? (i := 671) (by decide +kernel)) rfl), (BW_in (List.mem_of_getElem? (i := 668) (by decide +kernel)) rfl), (BW_in (List.mem_of_getElem? (i := 98) (by decide +kernel)) rfl), ⟨by decide +kernel, by decide +kernel, by decide +kernel⟩⟩, (BW_in (List.mem_of_getElem? (i := 669) (by decide +kernel)) rfl), (BW_in (List.mem_of_getElem? (i := 670) (by decide +kernel)) rfl)⟩
theorem lw11_room : LkV RL 59 yX11_room cX11_room 3 (some .boolean) 2 := ⟨⟨(BW_in (List.mem_of_getElem? (i := 1606) (by decide +kernel)) rfl), (BW_in (List.mem_of_getElem? (i := 1603) (by decide +kernel)) rfl), (BW_in (List.mem_of_getElem? (i := 110) (by decide +kernel)) rfl), ⟨by decide +kernel, by decide +kernel, by decide +kernel⟩⟩, (BW_in (List.mem_of_getElem? (i := 1604) (by decide +kernel)) rfl), (BW_in (List.mem_of_getElem? (i := 1605) (by decide +kernel)) rfl)⟩
theorem lw10_feed : LkV RL 60 yX10_feed cX10_feed 6 (some .int) 5 := ⟨⟨(BW_in (List.mem_of_getElem? (i := 675) (by decide +kernel)) rfl), (BW_in (List.mem_of_getElem? (i := 672) (by decide +kernel)) rfl), (BW_in (List.mem_of_getElem? (i := 98) (by decide +kernel)) rfl), ⟨by decide +kernel, by decide +kernel, by decide +kernel⟩⟩, (BW_in (List.mem_of_getElem? (i := 673) (by decide +kernel)) rfl), (BW_in (List.mem_of_getElem? (i := 674) (by decide +kernel)) rfl)⟩
theorem lw11_feed : LkV RL 64 yX11_feed cX11_feed 8 (some .int) 5 := ⟨⟨(BW_in (List.mem_of_getElem? (i := 1630) (by decide +kernel)) rfl), (BW_in (List.mem_of_getElem? (i := 1627) (by decide +kernel)) rfl), (BW_in (List.mem_of_getElem? (i := 110) (by decide +kernel)) rfl), ⟨by decide +kernel, by decide +kernel, by decide +kernel⟩⟩, (BW_in (List.mem_of_getElem? (i := 1628) (by decide +kernel)) rfl), (BW_in (List.mem_of_getElem? (i := 1629) (by decide +kernel)) rfl)⟩
theorem lw10_end : LkV RL 65 yX10_end cX10_end 2 (some .int) 1 := ⟨⟨(BW_in (List.mem_of_getElem? (i := 687) (by decide +kernel)) rfl), (BW_in (List.mem_of_getElem? (i := 684) (by decide +kernel)) rfl), (BW_in (List.mem_of_getElem? (i := 98) (by decide +kernel)) rfl), ⟨by decide +kernel, by decide +kernel, by decide +kernel⟩⟩, (BW_in (List.mem_of_getElem? (i := 685) (by decide +kernel)) rfl), (BW_in (List.mem_of_getElem? (i := 686) (by decide +kernel)) rfl)⟩
theorem lw11_end : LkV RL 69 yX11_end cX11_end 2 (some .int) 1 := ⟨⟨(BW_in (List.mem_of_getElem? (i := 1634) (by decide +kernel)) rfl), (BW_in (List.mem_of_getElem? (i := 1631) (by decide +kernel)) rfl), (BW_in (List.mem_of_getElem? (i := 110) (by decide +kernel)) rfl), ⟨by decide +kernel, by decide +kernel, by decide +kernel⟩⟩, (BW_in (List.mem_of_getElem? (i := 1632) (by decide +kernel)) rfl), (BW_in (List.mem_of_getElem? (i := 1633) (by decide +kernel)) rfl)⟩
theorem lw10_rule : LkV RL 70 yX10_rule cX10_rule 3 (some .int) 0 := ⟨⟨(BW_in (List.mem_of_getElem? (i := 691) (by decide +kernel)) rfl), (BW_in (List.mem_of_getElem? (i := 688) (by decide +kernel)) rfl), (BW_in (List.mem_of_getElem? (i := 98) (by decide +kernel)) rfl), ⟨by decide +kernel, by decide +kernel, by decide +kernel⟩⟩, (BW_in (List.mem_of_getElem? (i := 689) (by decide +kernel)) rfl), (BW_in (List.mem_of_getElem? (i := 690) (by decide +kernel)) rfl)⟩
theorem lw11_rule : LkV RL 74 yX11_rule cX11_rule 3 (some .int) 0 := ⟨⟨(BW_in (List.mem_of_getElem? (i := 1638) (by decide +kernel)) rfl), (BW_in (List.mem_of_getElem? (i := 1635) (by decide +kernel)) rfl), (BW_in (List.mem_of_getElem? (i := 110) (by decide +kernel)) rfl), ⟨by decide +kernel, by decide +kernel, by decide +kernel⟩⟩, (BW_in (List.mem_of_getElem? (i := 1636) (by decide +kernel)) rfl), (BW_in (List.mem_of_getElem? (i := 1637) (by decide +kernel)) rfl)⟩
theorem lw10_place : LkV RL 75 yX10_place cX10_place 1 (some .int) 0 := ⟨⟨(BW_in (List.mem_of_getElem? (i := 828) (by decide +kernel)) rfl), (BW_in (List.mem_of_getElem? (i := 825) (by decide +kernel)) rfl), (BW_in (List.mem_of_getElem? (i := 98) (by decide +kernel)) rfl), ⟨by decide +kernel, by decide +kernel, by decide +kernel⟩⟩, (BW_in (List.mem_of_getElem? (i := 826) (by decide +kernel)) rfl), (BW_in (List.mem_of_getElem? (i := 827) (by decide +kernel)) rfl)⟩
theorem lw11_place : LkV RL 78 yX11_place cX11_place 1 (some .int) 0 := ⟨⟨(BW_in (List.mem_of_getElem? (i := 1730) (by decide +kernel)) rfl), (BW_in (List.mem_of_getElem? (i := 1727) (by decide +kernel)) rfl), (BW_in (List.mem_of_getElem? (i := 110) (by decide +kernel)) rfl), ⟨by decide +kernel, by decide +kernel, by decide +kernel⟩⟩, (BW_in (List.mem_of_getElem? (i := 1728) (by decide +kernel)) rfl), (BW_in (List.mem_of_getElem? (i := 1729) (by decide +kernel)) rfl)⟩
theorem lw10_holds : LkV RL 79 yX10_holds cX10_holds 5 (some .int) 4 := ⟨⟨(BW_in (List.mem_of_getElem? (i := 832) (by decide +kernel)) rfl), (BW_in (List.mem_of_getElem? (i := 829) (by decide +kernel)) rfl), (BW_in (List.mem_of_getElem? (i := 98) (by decide +kernel)) rfl), ⟨by decide +kernel, by decide +kernel, by decide +kernel⟩⟩, (BW_in (List.mem_of_getElem? (i := 830) (by decide +kernel)) rfl), (BW_in (List.mem_of_getElem? (i := 831) (by decide +kernel)) rfl)⟩
theorem lw11_holds : LkV RL 83 yX11_holds cX11_holds 5 (some .int) 4 := ⟨⟨(BW_in (List.mem_of_getElem? (i := 1734) (by decide +kernel)) rfl), (BW_in (List.mem_of_getElem? (i := 1731) (by decide +kernel)) rfl), (BW_in (List.mem_of_getElem? (i := 110) (by decide +kernel)) rfl), ⟨by decide +kernel, by decide +kernel, by decide +kernel⟩⟩, (BW_in (List.mem_of_getElem? (i := 1732) (by decide +kernel)) rfl), (BW_in (List.mem_of_getElem? (i := 1733) (by decide +kernel)) rfl)⟩
theorem lw10_day : LkV RL 84 yX10_day cX10_day 2 (some .int) 1 := ⟨⟨(BW_in (List.mem_of_getElem? (i := 906) (by decide +kernel)) rfl), (BW_in (List.mem_of_getElem? (i := 903) (by decide +kernel)) rfl), (BW_in (List.mem_of_getElem? (i := 98) (by decide +kernel)) rfl), ⟨by decide +kernel, by decide +kernel, by decide +kernel⟩⟩, (BW_in (List.mem_of_getElem? (i := 904) (by decide +kernel)) rfl), (BW_in (List.mem_of_getElem? (i := 905) (by decide +kernel)) rfl)⟩
theorem lw11_day : LkV RL 87 yX11_day cX11_day 3 (some .int) 1 := ⟨⟨(BW_in (List.mem_of_getElem? (i := 1926) (by decide +kernel)) rfl), (BW_in (List.mem_of_getElem? (i := 1923) (by decide +kernel)) rfl), (BW_in (List.mem_of_getElem? (i := 110) (by decide +kernel)) rfl), ⟨by decide +kernel, by decide +kernel, by decide +kernel⟩⟩, (BW_in (List.mem_of_getElem? (i := 1924) (by decide +kernel)) rfl), (BW_in (List.mem_of_getElem? (i := 1925) (by decide +kernel)) rfl)⟩
theorem lw10_plan : LkV RL 88 yX10_plan cX10_plan 2 (some .int) 1 := ⟨⟨(BW_in (List.mem_of_getElem? (i := 915) (by decide +kernel)) rfl), (BW_in (List.mem_of_getElem? (i := 912) (by decide +kernel)) rfl), (BW_in (List.mem_of_getElem? (i := 98) (by decide +kernel)) rfl), ⟨by decide +kernel, by decide +kernel, by decide +kernel⟩⟩, (BW_in (List.mem_of_getElem? (i := 913) (by decide +kernel)) rfl), (BW_in (List.mem_of_getElem? (i := 914) (by decide +kernel)) rfl)⟩
theorem lw11_plan : LkV RL 91 yX11_plan cX11_plan 2 (some .int) 1 := ⟨⟨(BW_in (List.mem_of_getElem? (i := 1757) (by decide +kernel)) rfl), (BW_in (List.mem_of_getElem? (i := 1754) (by decide +kernel)) rfl), (BW_in (List.mem_of_getElem? (i := 110) (by decide +kernel)) rfl), ⟨by decide +kernel, by decide +kernel, by decide +kernel⟩⟩, (BW_in (List.mem_of_getElem? (i := 1755) (by decide +kernel)) rfl), (BW_in (List.mem_of_getElem? (i := 1756) (by decide +kernel)) rfl)⟩
theorem lw10_planned : LkV RL 92 yX10_planned cX10_planned 3 (some .int) 2 := ⟨⟨(BW_in (List.mem_of_getElem? (i := 1044) (by decide +kernel)) rfl), (BW_in (List.mem_of_getElem? (i := 1041) (by decide +kernel)) rfl), (BW_in (List.mem_of_getElem? (i := 98) (by decide +kernel)) rfl), ⟨by decide +kernel, by decide +kernel, by decide +kernel⟩⟩, (BW_in (List.mem_of_getElem? (i := 1042) (by decide +kernel)) rfl), (BW_in (List.mem_of_getElem? (i := 1043) (by decide +kernel)) rfl)⟩
theorem lw11_planned : LkV RL 95 yX11_planned cX11_planned 3 (some .int) 2 := ⟨⟨(BW_in (List.mem_of_getElem? (i := 1806) (by decide +kernel)) rfl), (BW_in (List.mem_of_getElem? (i := 1803) (by decide +kernel)) rfl), (BW_in (List.mem_of_getElem? (i := 110) (by decide +kernel)) rfl), ⟨by decide +kernel, by decide +kernel, by decide +kernel⟩⟩, (BW_in (List.mem_of_getElem? (i := 1804) (by decide +kernel)) rfl), (BW_in (List.mem_of_getElem? (i := 1805) (by decide +kernel)) rfl)⟩
theorem lw10_keep : LkV RL 96 yX10_keep cX10_keep 2 (some .int) 0 := ⟨⟨(BW_in (List.mem_of_getElem? (i := 1052) (by decide +kernel)) rfl), (BW_in (List.mem_of_getElem? (i := 1049) (by decide +kernel)) rfl), (BW_in (List.mem_of_getElem? (i := 98) (by decide +kernel)) rfl), ⟨by decide +kernel, by decide +kernel, by decide +kernel⟩⟩, (BW_in (List.mem_of_getElem? (i := 1050) (by decide +kernel)) rfl), (BW_in (List.mem_of_getElem? (i := 1051) (by decide +kernel)) rfl)⟩
theorem lw11_keep : LkV RL 99 yX11_keep cX11_keep 3 (some .int) 0 := ⟨⟨(BW_in (List.mem_of_getElem? (i := 1810) (by decide +kernel)) rfl), (BW_in (List.mem_of_getElem? (i := 1807) (by decide +kernel)) rfl), (BW_in (List.mem_of_getElem? (i := 110) (by decide +kernel)) rfl), ⟨by decide +kernel, by decide +kernel, by decide +kernel⟩⟩, (BW_in (List.mem_of_getElem? (i := 1808) (by decide +kernel)) rfl), (BW_in (List.mem_of_getElem? (i := 1809) (by decide +kernel)) rfl)⟩
theorem lw10_make : LkV RL 100 yX10_make cX10_make 2 (some .int) 0 := ⟨⟨(BW_in (List.mem_of_getElem? (i := 1060) (by decide +kernel)) rfl), (BW_in (List.mem_of_getElem? (i := 1057) (by decide +kernel)) rfl), (BW_in (List.mem_of_getElem? (i := 98) (by decide +kernel)) rfl), ⟨by decide +kernel, by decide +kernel, by decide +kernel⟩⟩, (BW_in (List.mem_of_getElem? (i := 1058) (by decide +kernel)) rfl), (BW_in (List.mem_of_getElem? (i := 1059) (by decide +kernel)) rfl)⟩
theorem lw11_make : LkV RL 103 yX11_make cX11_make 2 (some .int) 0 := ⟨⟨(BW_in (List.mem_of_getElem? (i := 1814) (by decide +kernel)) rfl), (BW_in (List.mem_of_getElem? (i := 1811) (by decide +kernel)) rfl), (BW_in (List.mem_of_getElem? (i := 110) (by decide +kernel)) rfl), ⟨by decide +kernel, by decide +kernel, by decide +kernel⟩⟩, (BW_in (List.mem_of_getElem? (i := 1812) (by decide +kernel)) rfl), (BW_in (List.mem_of_getElem? (i := 1813) (by decide +kernel)) rfl)⟩
theorem lw10_steps : LkV RL 104 yX10_steps cX10_steps 1 (some .int) 0 := ⟨⟨(BW_in (List.mem_of_getElem? (i := 1120) (by decide +kernel)) rfl), (BW_in (List.mem_of_getElem? (i := 1117) (by decide +kernel)) rfl), (BW_in (List.mem_of_getElem? (i := 98) (by decide +kernel)) rfl), ⟨by decide +kernel, by decide +kernel, by decide +kernel⟩⟩, (BW_in (List.mem_of_getElem? (i := 1118) (by decide +kernel)) rfl), (BW_in (List.mem_of_getElem? (i := 1119) (by decide +kernel)) rfl)⟩
theorem lw11_steps : LkV RL 107 yX11_steps cX11_steps 1 (some .int) 0 := ⟨⟨(BW_in (List.mem_of_getElem? (i := 1834) (by decide +kernel)) rfl), (BW_in (List.mem_of_getElem? (i := 1831) (by decide +kernel)) rfl), (BW_in (List.mem_of_getElem? (i := 110) (by decide +kernel)) rfl), ⟨by decide +kernel, by decide +kernel, by decide +kernel⟩⟩, (BW_in (List.mem_of_getElem? (i := 1832) (by decide +kernel)) rfl), (BW_in (List.mem_of_getElem? (i := 1833) (by decide +kernel)) rfl)⟩
theorem lw10_late : LkV RL 108 yX10_late cX10_late 6 (some .int) 1 := ⟨⟨(BW_in (List.mem_of_getElem? (i := 1124) (by decide +kernel)) rfl), (BW_in (List.mem_of_getElem? (i := 1121) (by decide +kernel)) rfl), (BW_in (List.mem_of_getElem? (i := 98) (by decide +kernel)) rfl), ⟨by decide +kernel, by decide +kernel, by decide +kernel⟩⟩, (BW_in (List.mem_of_getElem? (i := 1122) (by decide +kernel)) rfl), (BW_in (List.mem_of_getElem? (i := 1123) (by decide +kernel)) rfl)⟩
theorem lw11_late : LkV RL 111 yX11_late cX11_late 3 (some .int) 1 := ⟨⟨(BW_in (List.mem_of_getElem? (i := 1838) (by decide +kernel)) rfl), (BW_in (List.mem_of_getElem? (i := 1835) (by decide +kernel)) rfl), (BW_in (List.mem_of_getElem? (i := 110) (by decide +kernel)) rfl), ⟨by decide +kernel, by decide +kernel, by decide +kernel⟩⟩, (BW_in (List.mem_of_getElem? (i := 1836) (by decide +kernel)) rfl), (BW_in (List.mem_of_getElem? (i := 1837) (by decide +kernel)) rfl)⟩
theorem lw10_change : LkV RL 112 yX10_change cX10_change 3 (some .int) 0 := ⟨⟨(BW_in (List.mem_of_getElem? (i := 1139) (by decide +kernel)) rfl), (BW_in (List.mem_of_getElem? (i := 1136) (by decide +kernel)) rfl), (BW_in (List.mem_of_getElem? (i := 98) (by decide +kernel)) rfl), ⟨by decide +kernel, by decide +kernel, by decide +kernel⟩⟩, (BW_in (List.mem_of_getElem? (i := 1137) (by decide +kernel)) rfl), (BW_in (List.mem_of_getElem? (i := 1138) (by decide +kernel)) rfl)⟩
theorem lw11_change : LkV RL 115 yX11_change cX11_change 4 (some .int) 0 := ⟨⟨(BW_in (List.mem_of_getElem? (i := 1846) (by decide +kernel)) rfl), (BW_in (List.mem_of_getElem? (i := 1843) (by decide +kernel)) rfl), (BW_in (List.mem_of_getElem? (i := 110) (by decide +kernel)) rfl), ⟨by decide +kernel, by decide +kernel, by decide +kernel⟩⟩, (BW_in (List.mem_of_getElem? (i := 1844) (by decide +kernel)) rfl), (BW_in (List.mem_of_getElem? (i := 1845) (by decide +kernel)) rfl)⟩
theorem lw10_classOf : LkV RL 116 yX10_classOf cX10_classOf 2 (some .int) 1 := ⟨⟨(BW_in (List.mem_of_getElem? (i := 1147) (by decide +kernel)) rfl), (BW_in (List.mem_of_getElem? (i := 1144) (by decide +kernel)) rfl), (BW_in (List.mem_of_getElem? (i := 98) (by decide +kernel)) rfl), ⟨by decide +kernel, by decide +kernel, by decide +kernel⟩⟩, (BW_in (List.mem_of_getElem? (i := 1145) (by decide +kernel)) rfl), (BW_in (List.mem_of_getElem? (i := 1146) (by decide +kernel)) rfl)⟩
theorem lw11_classOf : LkV RL 119 yX11_classOf cX11_classOf 2 (some .int) 1 := ⟨⟨(BW_in (List.mem_of_getElem? (i := 1854) (by decide +kernel)) rfl), (BW_in (List.mem_of_getElem? (i := 1851) (by decide +kernel)) rfl), (BW_in (List.mem_of_getElem? (i := 110) (by decide +kernel)) rfl), ⟨by decide +kernel, by decide +kernel, by decide +kernel⟩⟩, (BW_in (List.mem_of_getElem? (i := 1852) (by decide +kernel)) rfl), (BW_in (List.mem_of_getElem? (i := 1853) (by decide +kernel)) rfl)⟩
theorem lw10_was : LkV RL 120 yX10_was cX10_was 3 (some .int) 2 := ⟨⟨(BW_in (List.mem_of_getElem? (i := 1151) (by decide +kernel)) rfl), (BW_in (List.mem_of_getElem? (i := 1148) (by decide +kernel)) rfl), (BW_in (List.mem_of_getElem? (i := 98) (by decide +kernel)) rfl), ⟨by decide +kernel, by decide +kernel, by decide +kernel⟩⟩, (BW_in (List.mem_of_getElem? (i := 1149) (by decide +kernel)) rfl), (BW_in (List.mem_of_getElem? (i := 1150) (by decide +kernel)) rfl)⟩
theorem lw11_was : LkV RL 123 yX11_was cX11_was 5 (some .int) 2 := ⟨⟨(BW_in (List.mem_of_getElem? (i := 1931) (by decide +kernel)) rfl), (BW_in (List.mem_of_getElem? (i := 1928) (by decide +kernel)) rfl), (BW_in (List.mem_of_getElem? (i := 110) (by decide +kernel)) rfl), ⟨by decide +kernel, by decide +kernel, by decide +kernel⟩⟩, (BW_in (List.mem_of_getElem? (i := 1929) (by decide +kernel)) rfl), (BW_in (List.mem_of_getElem? (i := 1930) (by decide +kernel)) rfl)⟩
theorem lw10_served : LkV RL 124 yX10_served cX10_served 2 (some .int) 1 := ⟨⟨(BW_in (List.mem_of_getElem? (i := 1159) (by decide +kernel)) rfl), (BW_in (List.mem_of_getElem? (i := 1156) (by decide +kernel)) rfl), (BW_in (List.mem_of_getElem? (i := 98) (by decide +kernel)) rfl), ⟨by decide +kernel, by decide +kernel, by decide +kernel⟩⟩, (BW_in (List.mem_of_getElem? (i := 1157) (by decide +kernel)) rfl), (BW_in (List.mem_of_getElem? (i := 1158) (by decide +kernel)) rfl)⟩
theorem lw11_served : LkV RL 127 yX11_served cX11_served 2 (some .int) 1 := ⟨⟨(BW_in (List.mem_of_getElem? (i := 1858) (by decide +kernel)) rfl), (BW_in (List.mem_of_getElem? (i := 1855) (by decide +kernel)) rfl), (BW_in (List.mem_of_getElem? (i := 110) (by decide +kernel)) rfl), ⟨by decide +kernel, by decide +kernel, by decide +kernel⟩⟩, (BW_in (List.mem_of_getElem? (i := 1856) (by decide +kernel)) rfl), (BW_in (List.mem_of_getElem? (i := 1857) (by decide +kernel)) rfl)⟩
theorem lw10_harm : LkV RL 128 yX10_harm cX10_harm 2 (some .int) 1 := ⟨⟨(BW_in (List.mem_of_getElem? (i := 1167) (by decide +kernel)) rfl), (BW_in (List.mem_of_getElem? (i := 1164) (by decide +kernel)) rfl), (BW_in (List.mem_of_getElem? (i := 98) (by decide +kernel)) rfl), ⟨by decide +kernel, by decide +kernel, by decide +kernel⟩⟩, (BW_in (List.mem_of_getElem? (i := 1165) (by decide +kernel)) rfl), (BW_in (List.mem_of_getElem? (i := 1166) (by decide +kernel)) rfl)⟩
theorem lw11_harm : LkV RL 131 yX11_harm cX11_harm 2 (some .int) 1 := ⟨⟨(BW_in (List.mem_of_getElem? (i := 1862) (by decide +kernel)) rfl), (BW_in (List.mem_of_getElem? (i := 1859) (by decide +kernel)) rfl), (BW_in (List.mem_of_getElem? (i := 110) (by decide +kernel)) rfl), ⟨by decide +kernel, by decide +kernel, by decide +kernel⟩⟩, (BW_in (List.mem_of_getElem? (i := 1860) (by decide +kernel)) rfl), (BW_in (List.mem_of_getElem? (i := 1861) (by decide +kernel)) rfl)⟩
theorem lw10_allowed : LkV RL 132 yX10_allowed cX10_allowed 2 (some .int) 1 := ⟨⟨(BW_in (List.mem_of_getElem? (i := 1172) (by decide +kernel)) rfl), (BW_in (List.mem_of_getElem? (i := 1169) (by decide +kernel)) rfl), (BW_in (List.mem_of_getElem? (i := 98) (by decide +kernel)) rfl), ⟨by decide +kernel, by decide +kernel, by decide +kernel⟩⟩, (BW_in (List.mem_of_getElem? (i := 1170) (by decide +kernel)) rfl), (BW_in (List.mem_of_getElem? (i := 1171) (by decide +kernel)) rfl)⟩
theorem lw11_allowed : LkV RL 135 yX11_allowed cX11_allowed 2 (some .int) 1 := ⟨⟨(BW_in (List.mem_of_getElem? (i := 1866) (by decide +kernel)) rfl), (BW_in (List.mem_of_getElem? (i := 1863) (by decide +kernel)) rfl), (BW_in (List.mem_of_getElem? (i := 110) (by decide +kernel)) rfl), ⟨by decide +kernel, by decide +kernel, by decide +kernel⟩⟩, (BW_in (List.mem_of_getElem? (i := 1864) (by decide +kernel)) rfl), (BW_in (List.mem_of_getElem? (i := 1865) (by decide +kernel)) rfl)⟩
theorem lw10_swaps : LkV RL 136 yX10_swaps cX10_swaps 1 (some .int) 0 := ⟨⟨(BW_in (List.mem_of_getElem? (i := 1177) (by decide +kernel)) rfl), (BW_in (List.mem_of_getElem? (i := 1174) (by decide +kernel)) rfl), (BW_in (List.mem_of_getElem? (i := 98) (by decide +kernel)) rfl), ⟨by decide +kernel, by decide +kernel, by decide +kernel⟩⟩, (BW_in (List.mem_of_getElem? (i := 1175) (by decide +kernel)) rfl), (BW_in (List.mem_of_getElem? (i := 1176) (by decide +kernel)) rfl)⟩
theorem lw11_swaps_ : LkV RL 139 yX11_swaps_ cX11_swaps_ 4 (some .int) 0 := ⟨⟨(BW_in (List.mem_of_getElem? (i := 1870) (by decide +kernel)) rfl), (BW_in (List.mem_of_getElem? (i := 1867) (by decide +kernel)) rfl), (BW_in (List.mem_of_getElem? (i := 110) (by decide +kernel)) rfl), ⟨by decide +kernel, by decide +kernel, by decide +kernel⟩⟩, (BW_in (List.mem_of_getElem? (i := 1868) (by decide +kernel)) rfl), (BW_in (List.mem_of_getElem? (i := 1869) (by decide +kernel)) rfl)⟩
theorem lw10_swap : LkV RL 140 yX10_swap cX10_swap 4 (some .int) 2 := ⟨⟨(BW_in (List.mem_of_getElem? (i := 1189) (by decide +kernel)) rfl), (BW_in (List.mem_of_getElem? (i := 1186) (by decide +kernel)) rfl), (BW_in (List.mem_of_getElem? (i := 98) (by decide +kernel)) rfl), ⟨by decide +kernel, by decide +kernel, by decide +kernel⟩⟩, (BW_in (List.mem_of_getElem? (i := 1187) (by decide +kernel)) rfl), (BW_in (List.mem_of_getElem? (i := 1188) (by decide +kernel)) rfl)⟩
theorem lw11_swap : LkV RL 143 yX11_swap cX11_swap 6 (some .int) 2 := ⟨⟨(BW_in (List.mem_of_getElem? (i := 1878) (by decide +kernel)) rfl), (BW_in (List.mem_of_getElem? (i := 1875) (by decide +kernel)) rfl), (BW_in (List.mem_of_getElem? (i := 110) (by decide +kernel)) rfl), ⟨by decide +kernel, by decide +kernel, by decide +kernel⟩⟩, (BW_in (List.mem_of_getElem? (i := 1876) (by decide +kernel)) rfl), (BW_in (List.mem_of_getElem? (i := 1877) (by decide +kernel)) rfl)⟩
theorem lw10_lonely : LkV RL 153 yX10_lonely cX10_lonely 4 (some .int) 1 := ⟨⟨(BW_in (List.mem_of_getElem? (i := 1193) (by decide +kernel)) rfl), (BW_in (List.mem_of_getElem? (i := 1190) (by decide +kernel)) rfl), (BW_in (List.mem_of_getElem? (i := 98) (by decide +kernel)) rfl), ⟨by decide +kernel, by decide +kernel, by decide +kernel⟩⟩, (BW_in (List.mem_of_getElem? (i := 1191) (by decide +kernel)) rfl), (BW_in (List.mem_of_getElem? (i := 1192) (by decide +kernel)) rfl)⟩
theorem lw11_lonely : LkV RL 156 yX11_lonely cX11_lonely 4 (some .int) 1 := ⟨⟨(BW_in (List.mem_of_getElem? (i := 1886) (by decide +kernel)) rfl), (BW_in (List.mem_of_getElem? (i := 1883) (by decide +kernel)) rfl), (BW_in (List.mem_of_getElem? (i := 110) (by decide +kernel)) rfl), ⟨by decide +kernel, by decide +kernel, by decide +kernel⟩⟩, (BW_in (List.mem_of_getElem? (i := 1884) (by decide +kernel)) rfl), (BW_in (List.mem_of_getElem? (i := 1885) (by decide +kernel)) rfl)⟩
theorem lw10_ring : LkV RL 157 yX10_ring cX10_ring 4 (some .int) 1 := ⟨⟨(BW_in (List.mem_of_getElem? (i := 1198) (by decide +kernel)) rfl), (BW_in (List.mem_of_getElem? (i := 1195) (by decide +kernel)) rfl), (BW_in (List.mem_of_getElem? (i := 98) (by decide +kernel)) rfl), ⟨by decide +kernel, by decide +kernel, by decide +kernel⟩⟩, (BW_in (List.mem_of_getElem? (i := 1196) (by decide +kernel)) rfl), (BW_in (List.mem_of_getElem? (i := 1197) (by decide +kernel)) rfl)⟩
theorem lw11_ring : LkV RL 160 yX11_ring cX11_ring 4 (some .int) 1 := ⟨⟨(BW_in (List.mem_of_getElem? (i := 1890) (by decide +kernel)) rfl), (BW_in (List.mem_of_getElem? (i := 1887) (by decide +kernel)) rfl), (BW_in (List.mem_of_getElem? (i := 110) (by decide +kernel)) rfl), ⟨by decide +kernel, by decide +kernel, by decide +kernel⟩⟩, (BW_in (List.mem_of_getElem? (i := 1888) (by decide +kernel)) rfl), (BW_in (List.mem_of_getElem? (i := 1889) (by decide +kernel)) rfl)⟩
theorem lw10_helper : LkV RL 161 yX10_helper cX10_helper 2 (some .int) 1 := ⟨⟨(BW_in (List.mem_of_getElem? (i := 1207) (by decide +kernel)) rfl), (BW_in (List.mem_of_getElem? (i := 1204) (by decide +kernel)) rfl), (BW_in (List.mem_of_getElem? (i := 98) (by decide +kernel)) rfl), ⟨by decide +kernel, by decide +kernel, by decide +kernel⟩⟩, (BW_in (List.mem_of_getElem? (i := 1205) (by decide +kernel)) rfl), (BW_in (List.mem_of_getElem? (i := 1206) (by decide +kernel)) rfl)⟩
theorem lw11_helper : LkV RL 164 yX11_helper cX11_helper 2 (some .int) 1 := ⟨⟨(BW_in (List.mem_of_getElem? (i := 1898) (by decide +kernel)) rfl), (BW_in (List.mem_of_getElem? (i := 1895) (by decide +kernel)) rfl), (BW_in (List.mem_of_getElem? (i := 110) (by decide +kernel)) rfl), ⟨by decide +kernel, by decide +kernel, by decide +kernel⟩⟩, (BW_in (List.mem_of_getElem? (i := 1896) (by decide +kernel)) rfl), (BW_in (List.mem_of_getElem? (i := 1897) (by decide +kernel)) rfl)⟩
theorem lw10_help : LkV RL 165 yX10_help cX10_help 3 (some .int) 1 := ⟨⟨(BW_in (List.mem_of_getElem? (i := 1215) (by decide +kernel)) rfl), (BW_in (List.mem_of_getElem? (i := 1212) (by decide +kernel)) rfl), (BW_in (List.mem_of_getElem? (i := 98) (by decide +kernel)) rfl), ⟨by decide +kernel, by decide +kernel, by decide +kernel⟩⟩, (BW_in (List.mem_of_getElem? (i := 1213) (by decide +kernel)) rfl), (BW_in (List.mem_of_getElem? (i := 1214) (by decide +kernel)) rfl)⟩
theorem lw11_help : LkV RL 168 yX11_help cX11_help 7 (some .int) 1 := ⟨⟨(BW_in (List.mem_of_getElem? (i := 1902) (by decide +kernel)) rfl), (BW_in (List.mem_of_getElem? (i := 1899) (by decide +kernel)) rfl), (BW_in (List.mem_of_getElem? (i := 110) (by decide +kernel)) rfl), ⟨by decide +kernel, by decide +kernel, by decide +kernel⟩⟩, (BW_in (List.mem_of_getElem? (i := 1900) (by decide +kernel)) rfl), (BW_in (List.mem_of_getElem? (i := 1901) (by decide +kernel)) rfl)⟩
theorem lw10_word : LkV RL 169 yX10_word cX10_word 4 (some .boolean) 3 := ⟨⟨(BW_in (List.mem_of_getElem? (i := 1240) (by decide +kernel)) rfl), (BW_in (List.mem_of_getElem? (i := 1237) (by decide +kernel)) rfl), (BW_in (List.mem_of_getElem? (i := 98) (by decide +kernel)) rfl), ⟨by decide +kernel, by decide +kernel, by decide +kernel⟩⟩, (BW_in (List.mem_of_getElem? (i := 1238) (by decide +kernel)) rfl), (BW_in (List.mem_of_getElem? (i := 1239) (by decide +kernel)) rfl)⟩
theorem lw11_word : LkV RL 172 yX11_word cX11_word 4 (some .boolean) 3 := ⟨⟨(BW_in (List.mem_of_getElem? (i := 1910) (by decide +kernel)) rfl), (BW_in (List.mem_of_getElem? (i := 1907) (by decide +kernel)) rfl), (BW_in (List.mem_of_getElem? (i := 110) (by decide +kernel)) rfl), ⟨by decide +kernel, by decide +kernel, by decide +kernel⟩⟩, (BW_in (List.mem_of_getElem? (i := 1908) (by decide +kernel)) rfl), (BW_in (List.mem_of_getElem? (i := 1909) (by decide +kernel)) rfl)⟩
theorem lw10_close : LkV RL 173 yX10_close cX10_close 2 (some .int) 0 := ⟨⟨(BW_in (List.mem_of_getElem? (i := 1244) (by decide +kernel)) rfl), (BW_in (List.mem_of_getElem? (i := 1241) (by decide +kernel)) rfl), (BW_in (List.mem_of_getElem? (i := 98) (by decide +kernel)) rfl), ⟨by decide +kernel, by decide +kernel, by decide +kernel⟩⟩, (BW_in (List.mem_of_getElem? (i := 1242) (by decide +kernel)) rfl), (BW_in (List.mem_of_getElem? (i := 1243) (by decide +kernel)) rfl)⟩
theorem lw11_close : LkV RL 176 yX11_close cX11_close 5 (some .int) 0 := ⟨⟨(BW_in (List.mem_of_getElem? (i := 1914) (by decide +kernel)) rfl), (BW_in (List.mem_of_getElem? (i := 1911) (by decide +kernel)) rfl), (BW_in (List.mem_of_getElem? (i := 110) (by decide +kernel)) rfl), ⟨by decide +kernel, by decide +kernel, by decide +kernel⟩⟩, (BW_in (List.mem_of_getElem? (i := 1912) (by decide +kernel)) rfl), (BW_in (List.mem_of_getElem? (i := 1913) (by decide +kernel)) rfl)⟩
theorem lw10_regret : LkV RL 177 yX10_regret cX10_regret 3 (some .int) 2 := ⟨⟨(BW_in (List.mem_of_getElem? (i := 1266) (by decide +kernel)) rfl), (BW_in (List.mem_of_getElem? (i := 1263) (by decide +kernel)) rfl), (BW_in (List.mem_of_getElem? (i := 98) (by decide +kernel)) rfl), ⟨by decide +kernel, by decide +kernel, by decide +kernel⟩⟩, (BW_in (List.mem_of_getElem? (i := 1264) (by decide +kernel)) rfl), (BW_in (List.mem_of_getElem? (i := 1265) (by decide +kernel)) rfl)⟩
theorem lw11_regret : LkV RL 180 yX11_regret cX11_regret 3 (some .int) 2 := ⟨⟨(BW_in (List.mem_of_getElem? (i := 1922) (by decide +kernel)) rfl), (BW_in (List.mem_of_getElem? (i := 1919) (by decide +kernel)) rfl), (BW_in (List.mem_of_getElem? (i := 110) (by decide +kernel)) rfl), ⟨by decide +kernel, by decide +kernel, by decide +kernel⟩⟩, (BW_in (List.mem_of_getElem? (i := 1920) (by decide +kernel)) rfl), (BW_in (List.mem_of_getElem? (i := 1921) (by decide +kernel)) rfl)⟩
theorem lw10_scaled : LkV RL 181 yX10_scaled cX10_scaled 5 (some .int) 4 := ⟨⟨(BW_in (List.mem_of_getElem? (i := 1270) (by decide +kernel)) rfl), (BW_in (List.mem_of_getElem? (i := 1267) (by decide +kernel)) rfl), (BW_in (List.mem_of_getElem? (i := 98) (by decide +kernel)) rfl), ⟨by decide +kernel, by decide +kernel, by decide +kernel⟩⟩, (BW_in (List.mem_of_getElem? (i := 1268) (by decide +kernel)) rfl), (BW_in (List.mem_of_getElem? (i := 1269) (by decide +kernel)) rfl)⟩
theorem lw11_scaled : LkV RL 184 yX11_scaled cX11_scaled 5 (some .int) 4 := ⟨⟨(BW_in (List.mem_of_getElem? (i := 1614) (by decide +kernel)) rfl), (BW_in (List.mem_of_getElem? (i := 1611) (by decide +kernel)) rfl), (BW_in (List.mem_of_getElem? (i := 110) (by decide +kernel)) rfl), ⟨by decide +kernel, by decide +kernel, by decide +kernel⟩⟩, (BW_in (List.mem_of_getElem? (i := 1612) (by decide +kernel)) rfl), (BW_in (List.mem_of_getElem? (i := 1613) (by decide +kernel)) rfl)⟩
theorem lw10_count : LkV RL 188 yX10_count cX10_count 2 (some .int) 1 := ⟨⟨(BW_in (List.mem_of_getElem? (i := 1276) (by decide +kernel)) rfl), (BW_in (List.mem_of_getElem? (i := 1273) (by decide +kernel)) rfl), (BW_in (List.mem_of_getElem? (i := 98) (by decide +kernel)) rfl), ⟨by decide +kernel, by decide +kernel, by decide +kernel⟩⟩, (BW_in (List.mem_of_getElem? (i := 1274) (by decide +kernel)) rfl), (BW_in (List.mem_of_getElem? (i := 1275) (by decide +kernel)) rfl)⟩
theorem lw11_count : LkV RL 191 yX11_count cX11_count 4 (some .int) 1 := ⟨⟨(BW_in (List.mem_of_getElem? (i := 1943) (by decide +kernel)) rfl), (BW_in (List.mem_of_getElem? (i := 1940) (by decide +kernel)) rfl), (BW_in (List.mem_of_getElem? (i := 110) (by decide +kernel)) rfl), ⟨by decide +kernel, by decide +kernel, by decide +kernel⟩⟩, (BW_in (List.mem_of_getElem? (i := 1941) (by decide +kernel)) rfl), (BW_in (List.mem_of_getElem? (i := 1942) (by decide +kernel)) rfl)⟩
theorem lwh_lie : Cond.codeWith yL_lie cL_lie 5 (some .int) [(0, 10, 13, 13)] ∈ BW ∧ Cond.methodLink RL 144 yL_lie ∈ BW ∧ Cond.static yL_lie ∈ BW ∧ Cond.initialized yL_lie.cls ∈ BW ∧ (yL_lie.cls ≠ "java/lang/invoke/MethodHandle" ∧ yL_lie.cls ≠ "java/lang/invoke/VarHandle" ∧ (parseMethodDescriptor yL_lie.desc).map (fun d => d.parameters.length) = some 4) := ⟨(BW_in (List.mem_of_getElem? (i := 1284) (by decide +kernel)) rfl), (BW_in (List.mem_of_getElem? (i := 1282) (by decide +kernel)) rfl), (BW_in (List.mem_of_getElem? (i := 1283) (by decide +kernel)) rfl), (BW_in (List.mem_of_getElem? (i := 97) (by decide +kernel)) rfl), ⟨by decide +kernel, by decide +kernel, by decide +kernel⟩⟩
theorem lw11_lie : LkV RL 149 yX11_lie cX11_lie 7 (some .int) 2 := ⟨⟨(BW_in (List.mem_of_getElem? (i := 1882) (by decide +kernel)) rfl), (BW_in (List.mem_of_getElem? (i := 1879) (by decide +kernel)) rfl), (BW_in (List.mem_of_getElem? (i := 110) (by decide +kernel)) rfl), ⟨by decide +kernel, by decide +kernel, by decide +kernel⟩⟩, (BW_in (List.mem_of_getElem? (i := 1880) (by decide +kernel)) rfl), (BW_in (List.mem_of_getElem? (i := 1881) (by decide +kernel)) rfl)⟩
theorem lw11_thrown : LkV RL 150 yX11_thrown cX11_thrown 1 (some .int) 0 := ⟨⟨(BW_in (List.mem_of_getElem? (i := 1563) (by decide +kernel)) rfl), (BW_in (List.mem_of_getElem? (i := 1560) (by decide +kernel)) rfl), (BW_in (List.mem_of_getElem? (i := 110) (by decide +kernel)) rfl), ⟨by decide +kernel, by decide +kernel, by decide +kernel⟩⟩, (BW_in (List.mem_of_getElem? (i := 1561) (by decide +kernel)) rfl), (BW_in (List.mem_of_getElem? (i := 1562) (by decide +kernel)) rfl)⟩
theorem lwh_of : Cond.codeWith yL_of cL_of 5 (some .int) [(0, 10, 13, 13)] ∈ BW ∧ Cond.methodLink RL 185 yL_of ∈ BW ∧ Cond.static yL_of ∈ BW ∧ Cond.initialized yL_of.cls ∈ BW ∧ (yL_of.cls ≠ "java/lang/invoke/MethodHandle" ∧ yL_of.cls ≠ "java/lang/invoke/VarHandle" ∧ (parseMethodDescriptor yL_of.desc).map (fun d => d.parameters.length) = some 4) := ⟨(BW_in (List.mem_of_getElem? (i := 1364) (by decide +kernel)) rfl), (BW_in (List.mem_of_getElem? (i := 1362) (by decide +kernel)) rfl), (BW_in (List.mem_of_getElem? (i := 1363) (by decide +kernel)) rfl), (BW_in (List.mem_of_getElem? (i := 97) (by decide +kernel)) rfl), ⟨by decide +kernel, by decide +kernel, by decide +kernel⟩⟩
theorem lw11_of : LkV RL 187 yX11_of cX11_of 4 (some .int) 2 := ⟨⟨(BW_in (List.mem_of_getElem? (i := 1935) (by decide +kernel)) rfl), (BW_in (List.mem_of_getElem? (i := 1932) (by decide +kernel)) rfl), (BW_in (List.mem_of_getElem? (i := 110) (by decide +kernel)) rfl), ⟨by decide +kernel, by decide +kernel, by decide +kernel⟩⟩, (BW_in (List.mem_of_getElem? (i := 1933) (by decide +kernel)) rfl), (BW_in (List.mem_of_getElem? (i := 1934) (by decide +kernel)) rfl)⟩
section LAWC
variable {p : Program} {l : Launch} {e : Env} {s : State} {m : MethodId} {args : Array Value} {below : List Frame} {meth : Method} {c : Code} {H : Heap} {locs : List Loc} {cells slots : Nat} {Q : State → Prop}
variable {D : va_G} {aC : Nat → ClassId} {ad : Nat → Nat} {sg : SG} {A : Nat → Prop} {H0 : Heap} {M : Mem} {ls : Array Slot} {b L : Nat} {xs : Nat → Int32}
set_option maxRecDepth 100000 in
set_option maxHeartbeats 4000000 in
theorem q_child (X : CX p s m args c cL_law 7 RL D aC ad sg A H0) (hX : va_X b L xs s H0) (hbl : b < H0.size) (hbA : ¬ A b) {i : Int} (hi : 0 ≤ i ∧ i + 6 ≤ (L : Int) ∧ L ≤ 3072) (I : Inv M) (hl : lv_has ls 7 (lvL b ad i)) (w : WS D aC ad A H0 M H locs) (hc : cells + 2 ≤ room_1.cells ∧ slots + 9 ≤ room_1.slots) (KK : ∀ (M' : Mem) (H' : Heap) (locs' : List Loc) (ls' : Array Slot) (cells' slots' : Nat), cells' ≤ cells + 2 → slots' ≤ slots + 9 → Inv M' → WS D aC ad A H0 M' H' locs' → lv_has ls' 7 (lvL b ad i) → W p l e room_1 s m args below meth c H' locs' cells' slots' Q (F0 m 1585 ls' [])) : W p l e room_1 s m args below meth c H locs cells slots Q (F0 m 212 ls []) := by
  have hx := X.1.1
  have hb := X.1.2.1
  have hi0 := X.2.2.1
  obtain ⟨⟨r, M1⟩, e1, ⟨r2, M2⟩, e2, er, I2⟩ := op_child I (sc xs i 1) (sc xs i 2) (sc xs i 3)
  refine lv_aload_n hx hb dL_law_212 rfl (lv_at hl 1 rfl) ?_
  refine g_sc (k := 1) X w hX hbl hbA (lv_at hl 0 rfl) (lv_at hl 4 rfl) hi (by decide) dL_law_213 dL_law_214 dL_law_216 dL_law_217 dL_law_218 ?_
  refine g_sc (k := 2) X w hX hbl hbA (lv_at hl 0 rfl) (lv_at hl 4 rfl) hi (by decide) dL_law_219 dL_law_220 dL_law_222 dL_law_223 dL_law_224 ?_
  refine g_sc (k := 3) X w hX hbl hbA (lv_at hl 0 rfl) (lv_at hl 4 rfl) hi (by decide) dL_law_225 dL_law_226 dL_law_228 dL_law_229 dL_law_230 ?_
  refine g_cvi (As := [.int (i2 (sc xs i 1)), .int (i2 (sc xs i 2)), .int (i2 (sc xs i 3))]) (rest := []) X w (k_X10_child hi0 _ inR_sc _ inR_sc _ inR_sc w.2.2 e1) lw10_child cl_10 KD_0 ⟨rfl, rfl⟩ ⟨nle rfl, nle rfl⟩ ⟨by omega, by omega⟩ hl.1 rfl (nle rfl) dL_law_231 (fun hr H1 locs1 w1 => ?_)
  refine lv_aload_n hx hb dL_law_234 rfl (lv_at hl 2 rfl) ?_
  refine g_sc (k := 1) X w1 hX hbl hbA (lv_at hl 0 rfl) (lv_at hl 4 rfl) hi (by decide) dL_law_235 dL_law_236 dL_law_238 dL_law_239 dL_law_240 ?_
  refine g_sc (k := 2) X w1 hX hbl hbA (lv_at hl 0 rfl) (lv_at hl 4 rfl) hi (by decide) dL_law_241 dL_law_242 dL_law_244 dL_law_245 dL_law_246 ?_
  refine g_sc (k := 3) X w1 hX hbl hbA (lv_at hl 0 rfl) (lv_at hl 4 rfl) hi (by decide) dL_law_247 dL_law_248 dL_law_250 dL_law_251 dL_law_252 ?_
  refine g_cvi (As := [.int (i2 (sc xs i 1)), .int (i2 (sc xs i 2)), .int (i2 (sc xs i 3))]) (rest := [.int (i2 r)]) X w1 (k_X11_child hi0 _ inR_sc _ inR_sc _ inR_sc w1.2.2 e2) lw11_child cl_11 KD_80 ⟨rfl, rfl⟩ ⟨nle rfl, nle rfl⟩ ⟨by omega, by omega⟩ hl.1 rfl (nle rfl) dL_law_253 (fun hr2 H2 locs2 w2 => ?_)
  refine g_icmp_eq (tgt := 1585) X hr hr2 dL_law_256 (by decide) (fun _ => ?_) (fun z => absurd er.symm z)
  exact KK M2 _ _ _ _ _ (by omega) (by omega) I2 w2 hl
set_option maxRecDepth 100000 in
set_option maxHeartbeats 4000000 in
theorem q_mark (X : CX p s m args c cL_law 7 RL D aC ad sg A H0) (hX : va_X b L xs s H0) (hbl : b < H0.size) (hbA : ¬ A b) {i : Int} (hi : 0 ≤ i ∧ i + 6 ≤ (L : Int) ∧ L ≤ 3072) (I : Inv M) (hl : lv_has ls 7 (lvL b ad i)) (w : WS D aC ad A H0 M H locs) (hc : cells + 2 ≤ room_1.cells ∧ slots + 9 ≤ room_1.slots) (KK : ∀ (M' : Mem) (H' : Heap) (locs' : List Loc) (ls' : Array Slot) (cells' slots' : Nat), cells' ≤ cells + 2 → slots' ≤ slots + 9 → Inv M' → WS D aC ad A H0 M' H' locs' → lv_has ls' 7 (lvL b ad i) → W p l e room_1 s m args below meth c H' locs' cells' slots' Q (F0 m 1585 ls' [])) : W p l e room_1 s m args below meth c H locs cells slots Q (F0 m 261 ls []) := by
  have hx := X.1.1
  have hb := X.1.2.1
  have hi0 := X.2.2.1
  obtain ⟨⟨r, M1⟩, e1, ⟨r2, M2⟩, e2, er, I2⟩ := op_mark I (sc xs i 1) (sc xs i 2) (sc xs i 3) (sc xs i 4)
  refine lv_aload_n hx hb dL_law_261 rfl (lv_at hl 1 rfl) ?_
  refine g_sc (k := 1) X w hX hbl hbA (lv_at hl 0 rfl) (lv_at hl 4 rfl) hi (by decide) dL_law_262 dL_law_263 dL_law_265 dL_law_266 dL_law_267 ?_
  refine g_sc (k := 2) X w hX hbl hbA (lv_at hl 0 rfl) (lv_at hl 4 rfl) hi (by decide) dL_law_268 dL_law_269 dL_law_271 dL_law_272 dL_law_273 ?_
  refine g_sc (k := 3) X w hX hbl hbA (lv_at hl 0 rfl) (lv_at hl 4 rfl) hi (by decide) dL_law_274 dL_law_275 dL_law_277 dL_law_278 dL_law_279 ?_
  refine g_sc (k := 4) X w hX hbl hbA (lv_at hl 0 rfl) (lv_at hl 4 rfl) hi (by decide) dL_law_280 dL_law_281 dL_law_283 dL_law_284 dL_law_285 ?_
  refine g_cvi (As := [.int (i2 (sc xs i 1)), .int (i2 (sc xs i 2)), .int (i2 (sc xs i 3)), .int (i2 (sc xs i 4))]) (rest := []) X w (k_X10_mark hi0 _ inR_sc _ inR_sc _ inR_sc _ inR_sc w.2.2 e1) lw10_mark cl_10 KD_0 ⟨rfl, rfl⟩ ⟨nle rfl, nle rfl⟩ ⟨by omega, by omega⟩ hl.1 rfl (nle rfl) dL_law_286 (fun hr H1 locs1 w1 => ?_)
  refine lv_aload_n hx hb dL_law_289 rfl (lv_at hl 2 rfl) ?_
  refine g_sc (k := 1) X w1 hX hbl hbA (lv_at hl 0 rfl) (lv_at hl 4 rfl) hi (by decide) dL_law_290 dL_law_291 dL_law_293 dL_law_294 dL_law_295 ?_
  refine g_sc (k := 2) X w1 hX hbl hbA (lv_at hl 0 rfl) (lv_at hl 4 rfl) hi (by decide) dL_law_296 dL_law_297 dL_law_299 dL_law_300 dL_law_301 ?_
  refine g_sc (k := 3) X w1 hX hbl hbA (lv_at hl 0 rfl) (lv_at hl 4 rfl) hi (by decide) dL_law_302 dL_law_303 dL_law_305 dL_law_306 dL_law_307 ?_
  refine g_sc (k := 4) X w1 hX hbl hbA (lv_at hl 0 rfl) (lv_at hl 4 rfl) hi (by decide) dL_law_308 dL_law_309 dL_law_311 dL_law_312 dL_law_313 ?_
  refine g_cvi (As := [.int (i2 (sc xs i 1)), .int (i2 (sc xs i 2)), .int (i2 (sc xs i 3)), .int (i2 (sc xs i 4))]) (rest := [.int (i2 r)]) X w1 (k_X11_mark hi0 _ inR_sc _ inR_sc _ inR_sc _ inR_sc w1.2.2 e2) lw11_mark cl_11 KD_80 ⟨rfl, rfl⟩ ⟨nle rfl, nle rfl⟩ ⟨by omega, by omega⟩ hl.1 rfl (nle rfl) dL_law_314 (fun hr2 H2 locs2 w2 => ?_)
  refine g_icmp_eq (tgt := 1585) X hr hr2 dL_law_317 (by decide) (fun _ => ?_) (fun z => absurd er.symm z)
  exact KK M2 _ _ _ _ _ (by omega) (by omega) I2 w2 hl
set_option maxRecDepth 100000 in
set_option maxHeartbeats 4000000 in
theorem q_wish (X : CX p s m args c cL_law 7 RL D aC ad sg A H0) (hX : va_X b L xs s H0) (hbl : b < H0.size) (hbA : ¬ A b) {i : Int} (hi : 0 ≤ i ∧ i + 6 ≤ (L : Int) ∧ L ≤ 3072) (I : Inv M) (hl : lv_has ls 7 (lvL b ad i)) (w : WS D aC ad A H0 M H locs) (hc : cells + 2 ≤ room_1.cells ∧ slots + 9 ≤ room_1.slots) (KK : ∀ (M' : Mem) (H' : Heap) (locs' : List Loc) (ls' : Array Slot) (cells' slots' : Nat), cells' ≤ cells + 2 → slots' ≤ slots + 9 → Inv M' → WS D aC ad A H0 M' H' locs' → lv_has ls' 7 (lvL b ad i) → W p l e room_1 s m args below meth c H' locs' cells' slots' Q (F0 m 1585 ls' [])) : W p l e room_1 s m args below meth c H locs cells slots Q (F0 m 322 ls []) := by
  have hx := X.1.1
  have hb := X.1.2.1
  have hi0 := X.2.2.1
  obtain ⟨⟨r, M1⟩, e1, ⟨r2, M2⟩, e2, er, I2⟩ := op_wish I (sc xs i 1) (sc xs i 2) (sc xs i 3)
  refine lv_aload_n hx hb dL_law_322 rfl (lv_at hl 1 rfl) ?_
  refine g_sc (k := 1) X w hX hbl hbA (lv_at hl 0 rfl) (lv_at hl 4 rfl) hi (by decide) dL_law_323 dL_law_324 dL_law_326 dL_law_327 dL_law_328 ?_
  refine g_sc (k := 2) X w hX hbl hbA (lv_at hl 0 rfl) (lv_at hl 4 rfl) hi (by decide) dL_law_329 dL_law_330 dL_law_332 dL_law_333 dL_law_334 ?_
  refine g_sc (k := 3) X w hX hbl hbA (lv_at hl 0 rfl) (lv_at hl 4 rfl) hi (by decide) dL_law_335 dL_law_336 dL_law_338 dL_law_339 dL_law_340 ?_
  refine g_cvi (As := [.int (i2 (sc xs i 1)), .int (i2 (sc xs i 2)), .int (i2 (sc xs i 3))]) (rest := []) X w (k_X10_wish hi0 _ inR_sc _ inR_sc _ inR_sc w.2.2 e1) lw10_wish cl_10 KD_0 ⟨rfl, rfl⟩ ⟨nle rfl, nle rfl⟩ ⟨by omega, by omega⟩ hl.1 rfl (nle rfl) dL_law_341 (fun hr H1 locs1 w1 => ?_)
  refine lv_aload_n hx hb dL_law_344 rfl (lv_at hl 2 rfl) ?_
  refine g_sc (k := 1) X w1 hX hbl hbA (lv_at hl 0 rfl) (lv_at hl 4 rfl) hi (by decide) dL_law_345 dL_law_346 dL_law_348 dL_law_349 dL_law_350 ?_
  refine g_sc (k := 2) X w1 hX hbl hbA (lv_at hl 0 rfl) (lv_at hl 4 rfl) hi (by decide) dL_law_351 dL_law_352 dL_law_354 dL_law_355 dL_law_356 ?_
  refine g_sc (k := 3) X w1 hX hbl hbA (lv_at hl 0 rfl) (lv_at hl 4 rfl) hi (by decide) dL_law_357 dL_law_358 dL_law_360 dL_law_361 dL_law_362 ?_
  refine g_cvi (As := [.int (i2 (sc xs i 1)), .int (i2 (sc xs i 2)), .int (i2 (sc xs i 3))]) (rest := [.int (i2 r)]) X w1 (k_X11_wish hi0 _ inR_sc _ inR_sc _ inR_sc w1.2.2 e2) lw11_wish cl_11 KD_80 ⟨rfl, rfl⟩ ⟨nle rfl, nle rfl⟩ ⟨by omega, by omega⟩ hl.1 rfl (nle rfl) dL_law_363 (fun hr2 H2 locs2 w2 => ?_)
  refine g_icmp_eq (tgt := 1585) X hr hr2 dL_law_366 (by decide) (fun _ => ?_) (fun z => absurd er.symm z)
  exact KK M2 _ _ _ _ _ (by omega) (by omega) I2 w2 hl
set_option maxRecDepth 100000 in
set_option maxHeartbeats 4000000 in
theorem q_bar (X : CX p s m args c cL_law 7 RL D aC ad sg A H0) (hX : va_X b L xs s H0) (hbl : b < H0.size) (hbA : ¬ A b) {i : Int} (hi : 0 ≤ i ∧ i + 6 ≤ (L : Int) ∧ L ≤ 3072) (I : Inv M) (hl : lv_has ls 7 (lvL b ad i)) (w : WS D aC ad A H0 M H locs) (hc : cells + 2 ≤ room_1.cells ∧ slots + 9 ≤ room_1.slots) (KK : ∀ (M' : Mem) (H' : Heap) (locs' : List Loc) (ls' : Array Slot) (cells' slots' : Nat), cells' ≤ cells + 2 → slots' ≤ slots + 9 → Inv M' → WS D aC ad A H0 M' H' locs' → lv_has ls' 7 (lvL b ad i) → W p l e room_1 s m args below meth c H' locs' cells' slots' Q (F0 m 1585 ls' [])) : W p l e room_1 s m args below meth c H locs cells slots Q (F0 m 371 ls []) := by
  have hx := X.1.1
  have hb := X.1.2.1
  have hi0 := X.2.2.1
  obtain ⟨⟨r, M1⟩, e1, ⟨r2, M2⟩, e2, er, I2⟩ := op_bar I (sc xs i 1) (sc xs i 2) (is := nz (sc xs i 3)) nz_Z
  refine lv_aload_n hx hb dL_law_371 rfl (lv_at hl 1 rfl) ?_
  refine g_sc (k := 1) X w hX hbl hbA (lv_at hl 0 rfl) (lv_at hl 4 rfl) hi (by decide) dL_law_372 dL_law_373 dL_law_375 dL_law_376 dL_law_377 ?_
  refine g_sc (k := 2) X w hX hbl hbA (lv_at hl 0 rfl) (lv_at hl 4 rfl) hi (by decide) dL_law_378 dL_law_379 dL_law_381 dL_law_382 dL_law_383 ?_
  refine g_sc (k := 3) X w hX hbl hbA (lv_at hl 0 rfl) (lv_at hl 4 rfl) hi (by decide) dL_law_384 dL_law_385 dL_law_387 dL_law_388 dL_law_389 ?_
  refine g_nz X inR_sc dL_law_390 dL_law_393 dL_law_394 dL_law_397 ?_
  refine g_cvi (As := [.int (i2 (sc xs i 1)), .int (i2 (sc xs i 2)), .int (i2 (nz (sc xs i 3)))]) (rest := []) X w (k_X10_bar hi0 _ inR_sc _ inR_sc _ nz_R w.2.2 e1) lw10_bar cl_10 KD_0 ⟨rfl, rfl⟩ ⟨nle rfl, nle rfl⟩ ⟨by omega, by omega⟩ hl.1 rfl (nle rfl) dL_law_398 (fun hr H1 locs1 w1 => ?_)
  refine lv_aload_n hx hb dL_law_401 rfl (lv_at hl 2 rfl) ?_
  refine g_sc (k := 1) X w1 hX hbl hbA (lv_at hl 0 rfl) (lv_at hl 4 rfl) hi (by decide) dL_law_402 dL_law_403 dL_law_405 dL_law_406 dL_law_407 ?_
  refine g_sc (k := 2) X w1 hX hbl hbA (lv_at hl 0 rfl) (lv_at hl 4 rfl) hi (by decide) dL_law_408 dL_law_409 dL_law_411 dL_law_412 dL_law_413 ?_
  refine g_sc (k := 3) X w1 hX hbl hbA (lv_at hl 0 rfl) (lv_at hl 4 rfl) hi (by decide) dL_law_414 dL_law_415 dL_law_417 dL_law_418 dL_law_419 ?_
  refine g_nz X inR_sc dL_law_420 dL_law_423 dL_law_424 dL_law_427 ?_
  refine g_cvi (As := [.int (i2 (sc xs i 1)), .int (i2 (sc xs i 2)), .int (i2 (nz (sc xs i 3)))]) (rest := [.int (i2 r)]) X w1 (k_X11_bar hi0 _ inR_sc _ inR_sc _ nz_R w1.2.2 e2) lw11_bar cl_11 KD_80 ⟨rfl, rfl⟩ ⟨nle rfl, nle rfl⟩ ⟨by omega, by omega⟩ hl.1 rfl (nle rfl) dL_law_428 (fun hr2 H2 locs2 w2 => ?_)
  refine g_icmp_eq (tgt := 1585) X hr hr2 dL_law_431 (by decide) (fun _ => ?_) (fun z => absurd er.symm z)
  exact KK M2 _ _ _ _ _ (by omega) (by omega) I2 w2 hl
set_option maxRecDepth 100000 in
set_option maxHeartbeats 4000000 in
theorem q_twins (X : CX p s m args c cL_law 7 RL D aC ad sg A H0) (hX : va_X b L xs s H0) (hbl : b < H0.size) (hbA : ¬ A b) {i : Int} (hi : 0 ≤ i ∧ i + 6 ≤ (L : Int) ∧ L ≤ 3072) (I : Inv M) (hl : lv_has ls 7 (lvL b ad i)) (w : WS D aC ad A H0 M H locs) (hc : cells + 2 ≤ room_1.cells ∧ slots + 9 ≤ room_1.slots) (KK : ∀ (M' : Mem) (H' : Heap) (locs' : List Loc) (ls' : Array Slot) (cells' slots' : Nat), cells' ≤ cells + 2 → slots' ≤ slots + 9 → Inv M' → WS D aC ad A H0 M' H' locs' → lv_has ls' 7 (lvL b ad i) → W p l e room_1 s m args below meth c H' locs' cells' slots' Q (F0 m 1585 ls' [])) : W p l e room_1 s m args below meth c H locs cells slots Q (F0 m 436 ls []) := by
  have hx := X.1.1
  have hb := X.1.2.1
  have hi0 := X.2.2.1
  obtain ⟨⟨r, M1⟩, e1, ⟨r2, M2⟩, e2, er, I2⟩ := op_twins I (sc xs i 1) (sc xs i 2) (is := nz (sc xs i 3)) nz_Z
  refine lv_aload_n hx hb dL_law_436 rfl (lv_at hl 1 rfl) ?_
  refine g_sc (k := 1) X w hX hbl hbA (lv_at hl 0 rfl) (lv_at hl 4 rfl) hi (by decide) dL_law_437 dL_law_438 dL_law_440 dL_law_441 dL_law_442 ?_
  refine g_sc (k := 2) X w hX hbl hbA (lv_at hl 0 rfl) (lv_at hl 4 rfl) hi (by decide) dL_law_443 dL_law_444 dL_law_446 dL_law_447 dL_law_448 ?_
  refine g_sc (k := 3) X w hX hbl hbA (lv_at hl 0 rfl) (lv_at hl 4 rfl) hi (by decide) dL_law_449 dL_law_450 dL_law_452 dL_law_453 dL_law_454 ?_
  refine g_nz X inR_sc dL_law_455 dL_law_458 dL_law_459 dL_law_462 ?_
  refine g_cvi (As := [.int (i2 (sc xs i 1)), .int (i2 (sc xs i 2)), .int (i2 (nz (sc xs i 3)))]) (rest := []) X w (k_X10_twins hi0 _ inR_sc _ inR_sc _ nz_R w.2.2 e1) lw10_twins cl_10 KD_0 ⟨rfl, rfl⟩ ⟨nle rfl, nle rfl⟩ ⟨by omega, by omega⟩ hl.1 rfl (nle rfl) dL_law_463 (fun hr H1 locs1 w1 => ?_)
  refine lv_aload_n hx hb dL_law_466 rfl (lv_at hl 2 rfl) ?_
  refine g_sc (k := 1) X w1 hX hbl hbA (lv_at hl 0 rfl) (lv_at hl 4 rfl) hi (by decide) dL_law_467 dL_law_468 dL_law_470 dL_law_471 dL_law_472 ?_
  refine g_sc (k := 2) X w1 hX hbl hbA (lv_at hl 0 rfl) (lv_at hl 4 rfl) hi (by decide) dL_law_473 dL_law_474 dL_law_476 dL_law_477 dL_law_478 ?_
  refine g_sc (k := 3) X w1 hX hbl hbA (lv_at hl 0 rfl) (lv_at hl 4 rfl) hi (by decide) dL_law_479 dL_law_480 dL_law_482 dL_law_483 dL_law_484 ?_
  refine g_nz X inR_sc dL_law_485 dL_law_488 dL_law_489 dL_law_492 ?_
  refine g_cvi (As := [.int (i2 (sc xs i 1)), .int (i2 (sc xs i 2)), .int (i2 (nz (sc xs i 3)))]) (rest := [.int (i2 r)]) X w1 (k_X11_twins hi0 _ inR_sc _ inR_sc _ nz_R w1.2.2 e2) lw11_twins cl_11 KD_80 ⟨rfl, rfl⟩ ⟨nle rfl, nle rfl⟩ ⟨by omega, by omega⟩ hl.1 rfl (nle rfl) dL_law_493 (fun hr2 H2 locs2 w2 => ?_)
  refine g_icmp_eq (tgt := 1585) X hr hr2 dL_law_496 (by decide) (fun _ => ?_) (fun z => absurd er.symm z)
  exact KK M2 _ _ _ _ _ (by omega) (by omega) I2 w2 hl
set_option maxRecDepth 100000 in
set_option maxHeartbeats 4000000 in
theorem q_not (X : CX p s m args c cL_law 7 RL D aC ad sg A H0) (hX : va_X b L xs s H0) (hbl : b < H0.size) (hbA : ¬ A b) {i : Int} (hi : 0 ≤ i ∧ i + 6 ≤ (L : Int) ∧ L ≤ 3072) (I : Inv M) (hl : lv_has ls 7 (lvL b ad i)) (w : WS D aC ad A H0 M H locs) (hc : cells + 2 ≤ room_1.cells ∧ slots + 9 ≤ room_1.slots) (KK : ∀ (M' : Mem) (H' : Heap) (locs' : List Loc) (ls' : Array Slot) (cells' slots' : Nat), cells' ≤ cells + 2 → slots' ≤ slots + 9 → Inv M' → WS D aC ad A H0 M' H' locs' → lv_has ls' 7 (lvL b ad i) → W p l e room_1 s m args below meth c H' locs' cells' slots' Q (F0 m 1585 ls' [])) : W p l e room_1 s m args below meth c H locs cells slots Q (F0 m 501 ls []) := by
  have hx := X.1.1
  have hb := X.1.2.1
  have hi0 := X.2.2.1
  obtain ⟨⟨r, M1⟩, e1, ⟨r2, M2⟩, e2, er, I2⟩ := op_not I (sc xs i 1) (sc xs i 2) (is := nz (sc xs i 3)) nz_Z
  refine lv_aload_n hx hb dL_law_501 rfl (lv_at hl 1 rfl) ?_
  refine g_sc (k := 1) X w hX hbl hbA (lv_at hl 0 rfl) (lv_at hl 4 rfl) hi (by decide) dL_law_502 dL_law_503 dL_law_505 dL_law_506 dL_law_507 ?_
  refine g_sc (k := 2) X w hX hbl hbA (lv_at hl 0 rfl) (lv_at hl 4 rfl) hi (by decide) dL_law_508 dL_law_509 dL_law_511 dL_law_512 dL_law_513 ?_
  refine g_sc (k := 3) X w hX hbl hbA (lv_at hl 0 rfl) (lv_at hl 4 rfl) hi (by decide) dL_law_514 dL_law_515 dL_law_517 dL_law_518 dL_law_519 ?_
  refine g_nz X inR_sc dL_law_520 dL_law_523 dL_law_524 dL_law_527 ?_
  refine g_cvi (As := [.int (i2 (sc xs i 1)), .int (i2 (sc xs i 2)), .int (i2 (nz (sc xs i 3)))]) (rest := []) X w (k_X10_not hi0 _ inR_sc _ inR_sc _ nz_R w.2.2 e1) lw10_not cl_10 KD_0 ⟨rfl, rfl⟩ ⟨nle rfl, nle rfl⟩ ⟨by omega, by omega⟩ hl.1 rfl (nle rfl) dL_law_528 (fun hr H1 locs1 w1 => ?_)
  refine lv_aload_n hx hb dL_law_531 rfl (lv_at hl 2 rfl) ?_
  refine g_sc (k := 1) X w1 hX hbl hbA (lv_at hl 0 rfl) (lv_at hl 4 rfl) hi (by decide) dL_law_532 dL_law_533 dL_law_535 dL_law_536 dL_law_537 ?_
  refine g_sc (k := 2) X w1 hX hbl hbA (lv_at hl 0 rfl) (lv_at hl 4 rfl) hi (by decide) dL_law_538 dL_law_539 dL_law_541 dL_law_542 dL_law_543 ?_
  refine g_sc (k := 3) X w1 hX hbl hbA (lv_at hl 0 rfl) (lv_at hl 4 rfl) hi (by decide) dL_law_544 dL_law_545 dL_law_547 dL_law_548 dL_law_549 ?_
  refine g_nz X inR_sc dL_law_550 dL_law_553 dL_law_554 dL_law_557 ?_
  refine g_cvi (As := [.int (i2 (sc xs i 1)), .int (i2 (sc xs i 2)), .int (i2 (nz (sc xs i 3)))]) (rest := [.int (i2 r)]) X w1 (k_X11_not hi0 _ inR_sc _ inR_sc _ nz_R w1.2.2 e2) lw11_not cl_11 KD_80 ⟨rfl, rfl⟩ ⟨nle rfl, nle rfl⟩ ⟨by omega, by omega⟩ hl.1 rfl (nle rfl) dL_law_558 (fun hr2 H2 locs2 w2 => ?_)
  refine g_icmp_eq (tgt := 1585) X hr hr2 dL_law_561 (by decide) (fun _ => ?_) (fun z => absurd er.symm z)
  exact KK M2 _ _ _ _ _ (by omega) (by omega) I2 w2 hl
set_option maxRecDepth 100000 in
set_option maxHeartbeats 4000000 in
theorem q_classes (X : CX p s m args c cL_law 7 RL D aC ad sg A H0) (hX : va_X b L xs s H0) (hbl : b < H0.size) (hbA : ¬ A b) {i : Int} (hi : 0 ≤ i ∧ i + 6 ≤ (L : Int) ∧ L ≤ 3072) (I : Inv M) (hl : lv_has ls 7 (lvL b ad i)) (w : WS D aC ad A H0 M H locs) (hc : cells + 2 ≤ room_1.cells ∧ slots + 9 ≤ room_1.slots) (KK : ∀ (M' : Mem) (H' : Heap) (locs' : List Loc) (ls' : Array Slot) (cells' slots' : Nat), cells' ≤ cells + 2 → slots' ≤ slots + 9 → Inv M' → WS D aC ad A H0 M' H' locs' → lv_has ls' 7 (lvL b ad i) → W p l e room_1 s m args below meth c H' locs' cells' slots' Q (F0 m 1585 ls' [])) : W p l e room_1 s m args below meth c H locs cells slots Q (F0 m 566 ls []) := by
  have hx := X.1.1
  have hb := X.1.2.1
  have hi0 := X.2.2.1
  obtain ⟨⟨r, M1⟩, e1, ⟨r2, M2⟩, e2, er, I2⟩ := op_classes I (sc xs i 1)
  refine lv_aload_n hx hb dL_law_566 rfl (lv_at hl 1 rfl) ?_
  refine g_sc (k := 1) X w hX hbl hbA (lv_at hl 0 rfl) (lv_at hl 4 rfl) hi (by decide) dL_law_567 dL_law_568 dL_law_570 dL_law_571 dL_law_572 ?_
  refine g_cvi (As := [.int (i2 (sc xs i 1))]) (rest := []) X w (k_X10_classes hi0 _ inR_sc w.2.2 e1) lw10_classes cl_10 KD_0 ⟨rfl, rfl⟩ ⟨nle rfl, nle rfl⟩ ⟨by omega, by omega⟩ hl.1 rfl (nle rfl) dL_law_573 (fun hr H1 locs1 w1 => ?_)
  refine lv_aload_n hx hb dL_law_576 rfl (lv_at hl 2 rfl) ?_
  refine g_sc (k := 1) X w1 hX hbl hbA (lv_at hl 0 rfl) (lv_at hl 4 rfl) hi (by decide) dL_law_577 dL_law_578 dL_law_580 dL_law_581 dL_law_582 ?_
  refine g_cvi (As := [.int (i2 (sc xs i 1))]) (rest := [.int (i2 r)]) X w1 (k_X11_classes hi0 _ inR_sc w1.2.2 e2) lw11_classes cl_11 KD_80 ⟨rfl, rfl⟩ ⟨nle rfl, nle rfl⟩ ⟨by omega, by omega⟩ hl.1 rfl (nle rfl) dL_law_583 (fun hr2 H2 locs2 w2 => ?_)
  refine g_icmp_eq (tgt := 1585) X hr hr2 dL_law_586 (by decide) (fun _ => ?_) (fun z => absurd er.symm z)
  exact KK M2 _ _ _ _ _ (by omega) (by omega) I2 w2 hl
set_option maxRecDepth 100000 in
set_option maxHeartbeats 4000000 in
theorem q_room (X : CX p s m args c cL_law 7 RL D aC ad sg A H0) (hX : va_X b L xs s H0) (hbl : b < H0.size) (hbA : ¬ A b) {i : Int} (hi : 0 ≤ i ∧ i + 6 ≤ (L : Int) ∧ L ≤ 3072) (I : Inv M) (hl : lv_has ls 7 (lvL b ad i)) (w : WS D aC ad A H0 M H locs) (hc : cells + 2 ≤ room_1.cells ∧ slots + 9 ≤ room_1.slots) (KK : ∀ (M' : Mem) (H' : Heap) (locs' : List Loc) (ls' : Array Slot) (cells' slots' : Nat), cells' ≤ cells + 2 → slots' ≤ slots + 9 → Inv M' → WS D aC ad A H0 M' H' locs' → lv_has ls' 7 (lvL b ad i) → W p l e room_1 s m args below meth c H' locs' cells' slots' Q (F0 m 1585 ls' [])) : W p l e room_1 s m args below meth c H locs cells slots Q (F0 m 591 ls []) := by
  have hx := X.1.1
  have hb := X.1.2.1
  have hi0 := X.2.2.1
  obtain ⟨⟨r, M1⟩, e1, ⟨r2, M2⟩, e2, er, I2⟩ := op_room I (sc xs i 1) (sc xs i 2)
  refine lv_aload_n hx hb dL_law_591 rfl (lv_at hl 1 rfl) ?_
  refine g_sc (k := 1) X w hX hbl hbA (lv_at hl 0 rfl) (lv_at hl 4 rfl) hi (by decide) dL_law_592 dL_law_593 dL_law_595 dL_law_596 dL_law_597 ?_
  refine g_sc (k := 2) X w hX hbl hbA (lv_at hl 0 rfl) (lv_at hl 4 rfl) hi (by decide) dL_law_598 dL_law_599 dL_law_601 dL_law_602 dL_law_603 ?_
  refine g_cvi (As := [.int (i2 (sc xs i 1)), .int (i2 (sc xs i 2))]) (rest := []) X w (k_X10_room hi0 _ inR_sc _ inR_sc w.2.2 e1) lw10_room cl_10 KD_0 ⟨rfl, rfl⟩ ⟨nle rfl, nle rfl⟩ ⟨by omega, by omega⟩ hl.1 rfl (nle rfl) dL_law_604 (fun hr H1 locs1 w1 => ?_)
  refine lv_aload_n hx hb dL_law_607 rfl (lv_at hl 2 rfl) ?_
  refine g_sc (k := 1) X w1 hX hbl hbA (lv_at hl 0 rfl) (lv_at hl 4 rfl) hi (by decide) dL_law_608 dL_law_609 dL_law_611 dL_law_612 dL_law_613 ?_
  refine g_sc (k := 2) X w1 hX hbl hbA (lv_at hl 0 rfl) (lv_at hl 4 rfl) hi (by decide) dL_law_614 dL_law_615 dL_law_617 dL_law_618 dL_law_619 ?_
  refine g_cvi (As := [.int (i2 (sc xs i 1)), .int (i2 (sc xs i 2))]) (rest := [.int (i2 r)]) X w1 (k_X11_room hi0 _ inR_sc _ inR_sc w1.2.2 e2) lw11_room cl_11 KD_80 ⟨rfl, rfl⟩ ⟨nle rfl, nle rfl⟩ ⟨by omega, by omega⟩ hl.1 rfl (nle rfl) dL_law_620 (fun hr2 H2 locs2 w2 => ?_)
  refine g_icmp_eq (tgt := 1585) X hr hr2 dL_law_623 (by decide) (fun _ => ?_) (fun z => absurd er.symm z)
  exact KK M2 _ _ _ _ _ (by omega) (by omega) I2 w2 hl
set_option maxRecDepth 100000 in
set_option maxHeartbeats 4000000 in
theorem q_feed (X : CX p s m args c cL_law 7 RL D aC ad sg A H0) (hX : va_X b L xs s H0) (hbl : b < H0.size) (hbA : ¬ A b) {i : Int} (hi : 0 ≤ i ∧ i + 6 ≤ (L : Int) ∧ L ≤ 3072) (I : Inv M) (hl : lv_has ls 7 (lvL b ad i)) (w : WS D aC ad A H0 M H locs) (hc : cells + 2 ≤ room_1.cells ∧ slots + 9 ≤ room_1.slots) (KK : ∀ (M' : Mem) (H' : Heap) (locs' : List Loc) (ls' : Array Slot) (cells' slots' : Nat), cells' ≤ cells + 2 → slots' ≤ slots + 9 → Inv M' → WS D aC ad A H0 M' H' locs' → lv_has ls' 7 (lvL b ad i) → W p l e room_1 s m args below meth c H' locs' cells' slots' Q (F0 m 1585 ls' [])) : W p l e room_1 s m args below meth c H locs cells slots Q (F0 m 628 ls []) := by
  have hx := X.1.1
  have hb := X.1.2.1
  have hi0 := X.2.2.1
  obtain ⟨⟨r, M1⟩, e1, ⟨r2, M2⟩, e2, er, I2⟩ := op_feed I (sc xs i 1) (sc xs i 2) (sc xs i 3) (sc xs i 4) (sc xs i 5)
  refine lv_aload_n hx hb dL_law_628 rfl (lv_at hl 1 rfl) ?_
  refine g_sc (k := 1) X w hX hbl hbA (lv_at hl 0 rfl) (lv_at hl 4 rfl) hi (by decide) dL_law_629 dL_law_630 dL_law_632 dL_law_633 dL_law_634 ?_
  refine g_sc (k := 2) X w hX hbl hbA (lv_at hl 0 rfl) (lv_at hl 4 rfl) hi (by decide) dL_law_635 dL_law_636 dL_law_638 dL_law_639 dL_law_640 ?_
  refine g_sc (k := 3) X w hX hbl hbA (lv_at hl 0 rfl) (lv_at hl 4 rfl) hi (by decide) dL_law_641 dL_law_642 dL_law_644 dL_law_645 dL_law_646 ?_
  refine g_sc (k := 4) X w hX hbl hbA (lv_at hl 0 rfl) (lv_at hl 4 rfl) hi (by decide) dL_law_647 dL_law_648 dL_law_650 dL_law_651 dL_law_652 ?_
  refine g_sc (k := 5) X w hX hbl hbA (lv_at hl 0 rfl) (lv_at hl 4 rfl) hi (by decide) dL_law_653 dL_law_654 dL_law_656 dL_law_657 dL_law_658 ?_
  refine g_cvi (As := [.int (i2 (sc xs i 1)), .int (i2 (sc xs i 2)), .int (i2 (sc xs i 3)), .int (i2 (sc xs i 4)), .int (i2 (sc xs i 5))]) (rest := []) X w (k_X10_feed hi0 _ inR_sc _ inR_sc _ inR_sc _ inR_sc _ inR_sc w.2.2 e1) lw10_feed cl_10 KD_0 ⟨rfl, rfl⟩ ⟨nle rfl, nle rfl⟩ ⟨by omega, by omega⟩ hl.1 rfl (nle rfl) dL_law_659 (fun hr H1 locs1 w1 => ?_)
  refine lv_aload_n hx hb dL_law_662 rfl (lv_at hl 2 rfl) ?_
  refine g_sc (k := 1) X w1 hX hbl hbA (lv_at hl 0 rfl) (lv_at hl 4 rfl) hi (by decide) dL_law_663 dL_law_664 dL_law_666 dL_law_667 dL_law_668 ?_
  refine g_sc (k := 2) X w1 hX hbl hbA (lv_at hl 0 rfl) (lv_at hl 4 rfl) hi (by decide) dL_law_669 dL_law_670 dL_law_672 dL_law_673 dL_law_674 ?_
  refine g_sc (k := 3) X w1 hX hbl hbA (lv_at hl 0 rfl) (lv_at hl 4 rfl) hi (by decide) dL_law_675 dL_law_676 dL_law_678 dL_law_679 dL_law_680 ?_
  refine g_sc (k := 4) X w1 hX hbl hbA (lv_at hl 0 rfl) (lv_at hl 4 rfl) hi (by decide) dL_law_681 dL_law_682 dL_law_684 dL_law_685 dL_law_686 ?_
  refine g_sc (k := 5) X w1 hX hbl hbA (lv_at hl 0 rfl) (lv_at hl 4 rfl) hi (by decide) dL_law_687 dL_law_688 dL_law_690 dL_law_691 dL_law_692 ?_
  refine g_cvi (As := [.int (i2 (sc xs i 1)), .int (i2 (sc xs i 2)), .int (i2 (sc xs i 3)), .int (i2 (sc xs i 4)), .int (i2 (sc xs i 5))]) (rest := [.int (i2 r)]) X w1 (k_X11_feed hi0 _ inR_sc _ inR_sc _ inR_sc _ inR_sc _ inR_sc w1.2.2 e2) lw11_feed cl_11 KD_80 ⟨rfl, rfl⟩ ⟨nle rfl, nle rfl⟩ ⟨by omega, by omega⟩ hl.1 rfl (nle rfl) dL_law_693 (fun hr2 H2 locs2 w2 => ?_)
  refine g_icmp_eq (tgt := 1585) X hr hr2 dL_law_696 (by decide) (fun _ => ?_) (fun z => absurd er.symm z)
  exact KK M2 _ _ _ _ _ (by omega) (by omega) I2 w2 hl
set_option maxRecDepth 100000 in
set_option maxHeartbeats 4000000 in
theorem q_end (X : CX p s m args c cL_law 7 RL D aC ad sg A H0) (hX : va_X b L xs s H0) (hbl : b < H0.size) (hbA : ¬ A b) {i : Int} (hi : 0 ≤ i ∧ i + 6 ≤ (L : Int) ∧ L ≤ 3072) (I : Inv M) (hl : lv_has ls 7 (lvL b ad i)) (w : WS D aC ad A H0 M H locs) (hc : cells + 2 ≤ room_1.cells ∧ slots + 9 ≤ room_1.slots) (KK : ∀ (M' : Mem) (H' : Heap) (locs' : List Loc) (ls' : Array Slot) (cells' slots' : Nat), cells' ≤ cells + 2 → slots' ≤ slots + 9 → Inv M' → WS D aC ad A H0 M' H' locs' → lv_has ls' 7 (lvL b ad i) → W p l e room_1 s m args below meth c H' locs' cells' slots' Q (F0 m 1585 ls' [])) : W p l e room_1 s m args below meth c H locs cells slots Q (F0 m 701 ls []) := by
  have hx := X.1.1
  have hb := X.1.2.1
  have hi0 := X.2.2.1
  obtain ⟨⟨r, M1⟩, e1, ⟨r2, M2⟩, e2, er, I2⟩ := op_end I (sc xs i 1)
  refine lv_aload_n hx hb dL_law_701 rfl (lv_at hl 1 rfl) ?_
  refine g_sc (k := 1) X w hX hbl hbA (lv_at hl 0 rfl) (lv_at hl 4 rfl) hi (by decide) dL_law_702 dL_law_703 dL_law_705 dL_law_706 dL_law_707 ?_
  refine g_cvi (As := [.int (i2 (sc xs i 1))]) (rest := []) X w (k_X10_end hi0 _ inR_sc w.2.2 e1) lw10_end cl_10 KD_0 ⟨rfl, rfl⟩ ⟨nle rfl, nle rfl⟩ ⟨by omega, by omega⟩ hl.1 rfl (nle rfl) dL_law_708 (fun hr H1 locs1 w1 => ?_)
  refine lv_aload_n hx hb dL_law_711 rfl (lv_at hl 2 rfl) ?_
  refine g_sc (k := 1) X w1 hX hbl hbA (lv_at hl 0 rfl) (lv_at hl 4 rfl) hi (by decide) dL_law_712 dL_law_713 dL_law_715 dL_law_716 dL_law_717 ?_
  refine g_cvi (As := [.int (i2 (sc xs i 1))]) (rest := [.int (i2 r)]) X w1 (k_X11_end hi0 _ inR_sc w1.2.2 e2) lw11_end cl_11 KD_80 ⟨rfl, rfl⟩ ⟨nle rfl, nle rfl⟩ ⟨by omega, by omega⟩ hl.1 rfl (nle rfl) dL_law_718 (fun hr2 H2 locs2 w2 => ?_)
  refine g_icmp_eq (tgt := 1585) X hr hr2 dL_law_721 (by decide) (fun _ => ?_) (fun z => absurd er.symm z)
  exact KK M2 _ _ _ _ _ (by omega) (by omega) I2 w2 hl
set_option maxRecDepth 100000 in
set_option maxHeartbeats 4000000 in
theorem q_rule (X : CX p s m args c cL_law 7 RL D aC ad sg A H0) (hX : va_X b L xs s H0) (hbl : b < H0.size) (hbA : ¬ A b) {i : Int} (hi : 0 ≤ i ∧ i + 6 ≤ (L : Int) ∧ L ≤ 3072) (I : Inv M) (hl : lv_has ls 7 (lvL b ad i)) (w : WS D aC ad A H0 M H locs) (hc : cells + 2 ≤ room_1.cells ∧ slots + 9 ≤ room_1.slots) (KK : ∀ (M' : Mem) (H' : Heap) (locs' : List Loc) (ls' : Array Slot) (cells' slots' : Nat), cells' ≤ cells + 2 → slots' ≤ slots + 9 → Inv M' → WS D aC ad A H0 M' H' locs' → lv_has ls' 7 (lvL b ad i) → W p l e room_1 s m args below meth c H' locs' cells' slots' Q (F0 m 1585 ls' [])) : W p l e room_1 s m args below meth c H locs cells slots Q (F0 m 726 ls []) := by
  have hx := X.1.1
  have hb := X.1.2.1
  have hi0 := X.2.2.1
  obtain ⟨⟨r, M1⟩, e1, ⟨r2, M2⟩, e2, er, I2⟩ := op_rule I
  refine lv_aload_n hx hb dL_law_726 rfl (lv_at hl 1 rfl) ?_
  refine g_cvi (As := []) (rest := []) X w (k_X10_rule hi0  w.2.2 e1) lw10_rule cl_10 KD_0 ⟨rfl, rfl⟩ ⟨nle rfl, nle rfl⟩ ⟨by omega, by omega⟩ hl.1 rfl (nle rfl) dL_law_727 (fun hr H1 locs1 w1 => ?_)
  refine lv_aload_n hx hb dL_law_730 rfl (lv_at hl 2 rfl) ?_
  refine g_cvi (As := []) (rest := [.int (i2 r)]) X w1 (k_X11_rule hi0  w1.2.2 e2) lw11_rule cl_11 KD_80 ⟨rfl, rfl⟩ ⟨nle rfl, nle rfl⟩ ⟨by omega, by omega⟩ hl.1 rfl (nle rfl) dL_law_731 (fun hr2 H2 locs2 w2 => ?_)
  refine g_icmp_eq (tgt := 1585) X hr hr2 dL_law_734 (by decide) (fun _ => ?_) (fun z => absurd er.symm z)
  exact KK M2 _ _ _ _ _ (by omega) (by omega) I2 w2 hl
set_option maxRecDepth 100000 in
set_option maxHeartbeats 4000000 in
theorem q_place (X : CX p s m args c cL_law 7 RL D aC ad sg A H0) (hX : va_X b L xs s H0) (hbl : b < H0.size) (hbA : ¬ A b) {i : Int} (hi : 0 ≤ i ∧ i + 6 ≤ (L : Int) ∧ L ≤ 3072) (I : Inv M) (hl : lv_has ls 7 (lvL b ad i)) (w : WS D aC ad A H0 M H locs) (hc : cells + 2 ≤ room_1.cells ∧ slots + 9 ≤ room_1.slots) (KK : ∀ (M' : Mem) (H' : Heap) (locs' : List Loc) (ls' : Array Slot) (cells' slots' : Nat), cells' ≤ cells + 2 → slots' ≤ slots + 9 → Inv M' → WS D aC ad A H0 M' H' locs' → lv_has ls' 7 (lvL b ad i) → W p l e room_1 s m args below meth c H' locs' cells' slots' Q (F0 m 1585 ls' [])) : W p l e room_1 s m args below meth c H locs cells slots Q (F0 m 739 ls []) := by
  have hx := X.1.1
  have hb := X.1.2.1
  have hi0 := X.2.2.1
  obtain ⟨⟨r, M1⟩, e1, ⟨r2, M2⟩, e2, er, I2⟩ := op_place I
  obtain ⟨e1, eM⟩ := pr_of e1
  subst eM
  refine lv_aload_n hx hb dL_law_739 rfl (lv_at hl 1 rfl) ?_
  refine g_cvi (As := []) (rest := []) X w (k_X10_place hi0  w.2.2 e1) lw10_place cl_10 KD_0 ⟨rfl, rfl⟩ ⟨nle rfl, nle rfl⟩ ⟨by omega, by omega⟩ hl.1 rfl (nle rfl) dL_law_740 (fun hr H1 locs1 w1 => ?_)
  refine lv_aload_n hx hb dL_law_743 rfl (lv_at hl 2 rfl) ?_
  refine g_cvi (As := []) (rest := [.int (i2 r)]) X w1 (k_X11_place hi0  w1.2.2 e2) lw11_place cl_11 KD_80 ⟨rfl, rfl⟩ ⟨nle rfl, nle rfl⟩ ⟨by omega, by omega⟩ hl.1 rfl (nle rfl) dL_law_744 (fun hr2 H2 locs2 w2 => ?_)
  refine g_icmp_eq (tgt := 1585) X hr hr2 dL_law_747 (by decide) (fun _ => ?_) (fun z => absurd er.symm z)
  exact KK M2 _ _ _ _ _ (by omega) (by omega) I2 w2 hl
set_option maxRecDepth 100000 in
set_option maxHeartbeats 4000000 in
theorem q_holds (X : CX p s m args c cL_law 7 RL D aC ad sg A H0) (hX : va_X b L xs s H0) (hbl : b < H0.size) (hbA : ¬ A b) {i : Int} (hi : 0 ≤ i ∧ i + 6 ≤ (L : Int) ∧ L ≤ 3072) (I : Inv M) (hl : lv_has ls 7 (lvL b ad i)) (w : WS D aC ad A H0 M H locs) (hc : cells + 2 ≤ room_1.cells ∧ slots + 9 ≤ room_1.slots) (KK : ∀ (M' : Mem) (H' : Heap) (locs' : List Loc) (ls' : Array Slot) (cells' slots' : Nat), cells' ≤ cells + 2 → slots' ≤ slots + 9 → Inv M' → WS D aC ad A H0 M' H' locs' → lv_has ls' 7 (lvL b ad i) → W p l e room_1 s m args below meth c H' locs' cells' slots' Q (F0 m 1585 ls' [])) : W p l e room_1 s m args below meth c H locs cells slots Q (F0 m 752 ls []) := by
  have hx := X.1.1
  have hb := X.1.2.1
  have hi0 := X.2.2.1
  obtain ⟨⟨r, M1⟩, e1, ⟨r2, M2⟩, e2, er, I2⟩ := op_holds I (sc xs i 1) (sc xs i 2) (sc xs i 3) (sc xs i 4)
  refine lv_aload_n hx hb dL_law_752 rfl (lv_at hl 1 rfl) ?_
  refine g_sc (k := 1) X w hX hbl hbA (lv_at hl 0 rfl) (lv_at hl 4 rfl) hi (by decide) dL_law_753 dL_law_754 dL_law_756 dL_law_757 dL_law_758 ?_
  refine g_sc (k := 2) X w hX hbl hbA (lv_at hl 0 rfl) (lv_at hl 4 rfl) hi (by decide) dL_law_759 dL_law_760 dL_law_762 dL_law_763 dL_law_764 ?_
  refine g_sc (k := 3) X w hX hbl hbA (lv_at hl 0 rfl) (lv_at hl 4 rfl) hi (by decide) dL_law_765 dL_law_766 dL_law_768 dL_law_769 dL_law_770 ?_
  refine g_sc (k := 4) X w hX hbl hbA (lv_at hl 0 rfl) (lv_at hl 4 rfl) hi (by decide) dL_law_771 dL_law_772 dL_law_774 dL_law_775 dL_law_776 ?_
  refine g_cvi (As := [.int (i2 (sc xs i 1)), .int (i2 (sc xs i 2)), .int (i2 (sc xs i 3)), .int (i2 (sc xs i 4))]) (rest := []) X w (k_X10_holds hi0 _ inR_sc _ inR_sc _ inR_sc _ inR_sc w.2.2 e1) lw10_holds cl_10 KD_0 ⟨rfl, rfl⟩ ⟨nle rfl, nle rfl⟩ ⟨by omega, by omega⟩ hl.1 rfl (nle rfl) dL_law_777 (fun hr H1 locs1 w1 => ?_)
  refine lv_aload_n hx hb dL_law_780 rfl (lv_at hl 2 rfl) ?_
  refine g_sc (k := 1) X w1 hX hbl hbA (lv_at hl 0 rfl) (lv_at hl 4 rfl) hi (by decide) dL_law_781 dL_law_782 dL_law_784 dL_law_785 dL_law_786 ?_
  refine g_sc (k := 2) X w1 hX hbl hbA (lv_at hl 0 rfl) (lv_at hl 4 rfl) hi (by decide) dL_law_787 dL_law_788 dL_law_790 dL_law_791 dL_law_792 ?_
  refine g_sc (k := 3) X w1 hX hbl hbA (lv_at hl 0 rfl) (lv_at hl 4 rfl) hi (by decide) dL_law_793 dL_law_794 dL_law_796 dL_law_797 dL_law_798 ?_
  refine g_sc (k := 4) X w1 hX hbl hbA (lv_at hl 0 rfl) (lv_at hl 4 rfl) hi (by decide) dL_law_799 dL_law_800 dL_law_802 dL_law_803 dL_law_804 ?_
  refine g_cvi (As := [.int (i2 (sc xs i 1)), .int (i2 (sc xs i 2)), .int (i2 (sc xs i 3)), .int (i2 (sc xs i 4))]) (rest := [.int (i2 r)]) X w1 (k_X11_holds hi0 _ inR_sc _ inR_sc _ inR_sc _ inR_sc w1.2.2 e2) lw11_holds cl_11 KD_80 ⟨rfl, rfl⟩ ⟨nle rfl, nle rfl⟩ ⟨by omega, by omega⟩ hl.1 rfl (nle rfl) dL_law_805 (fun hr2 H2 locs2 w2 => ?_)
  refine g_icmp_eq (tgt := 1585) X hr hr2 dL_law_808 (by decide) (fun _ => ?_) (fun z => absurd er.symm z)
  exact KK M2 _ _ _ _ _ (by omega) (by omega) I2 w2 hl
set_option maxRecDepth 100000 in
set_option maxHeartbeats 4000000 in
theorem q_day (X : CX p s m args c cL_law 7 RL D aC ad sg A H0) (hX : va_X b L xs s H0) (hbl : b < H0.size) (hbA : ¬ A b) {i : Int} (hi : 0 ≤ i ∧ i + 6 ≤ (L : Int) ∧ L ≤ 3072) (I : Inv M) (hl : lv_has ls 7 (lvL b ad i)) (w : WS D aC ad A H0 M H locs) (hc : cells + 2 ≤ room_1.cells ∧ slots + 9 ≤ room_1.slots) (KK : ∀ (M' : Mem) (H' : Heap) (locs' : List Loc) (ls' : Array Slot) (cells' slots' : Nat), cells' ≤ cells + 2 → slots' ≤ slots + 9 → Inv M' → WS D aC ad A H0 M' H' locs' → lv_has ls' 7 (lvL b ad i) → W p l e room_1 s m args below meth c H' locs' cells' slots' Q (F0 m 1585 ls' [])) : W p l e room_1 s m args below meth c H locs cells slots Q (F0 m 813 ls []) := by
  have hx := X.1.1
  have hb := X.1.2.1
  have hi0 := X.2.2.1
  obtain ⟨⟨r, M1⟩, e1, ⟨r2, M2⟩, e2, er, I2⟩ := op_day I (sc xs i 1)
  refine lv_aload_n hx hb dL_law_813 rfl (lv_at hl 1 rfl) ?_
  refine g_sc (k := 1) X w hX hbl hbA (lv_at hl 0 rfl) (lv_at hl 4 rfl) hi (by decide) dL_law_814 dL_law_815 dL_law_817 dL_law_818 dL_law_819 ?_
  refine g_cvi (As := [.int (i2 (sc xs i 1))]) (rest := []) X w (k_X10_day hi0 _ inR_sc w.2.2 e1) lw10_day cl_10 KD_0 ⟨rfl, rfl⟩ ⟨nle rfl, nle rfl⟩ ⟨by omega, by omega⟩ hl.1 rfl (nle rfl) dL_law_820 (fun hr H1 locs1 w1 => ?_)
  refine lv_aload_n hx hb dL_law_823 rfl (lv_at hl 2 rfl) ?_
  refine g_sc (k := 1) X w1 hX hbl hbA (lv_at hl 0 rfl) (lv_at hl 4 rfl) hi (by decide) dL_law_824 dL_law_825 dL_law_827 dL_law_828 dL_law_829 ?_
  refine g_cvi (As := [.int (i2 (sc xs i 1))]) (rest := [.int (i2 r)]) X w1 (k_X11_day hi0 _ inR_sc w1.2.2 e2) lw11_day cl_11 KD_80 ⟨rfl, rfl⟩ ⟨nle rfl, nle rfl⟩ ⟨by omega, by omega⟩ hl.1 rfl (nle rfl) dL_law_830 (fun hr2 H2 locs2 w2 => ?_)
  refine g_icmp_eq (tgt := 1585) X hr hr2 dL_law_833 (by decide) (fun _ => ?_) (fun z => absurd er.symm z)
  exact KK M2 _ _ _ _ _ (by omega) (by omega) I2 w2 hl
set_option maxRecDepth 100000 in
set_option maxHeartbeats 4000000 in
theorem q_plan (X : CX p s m args c cL_law 7 RL D aC ad sg A H0) (hX : va_X b L xs s H0) (hbl : b < H0.size) (hbA : ¬ A b) {i : Int} (hi : 0 ≤ i ∧ i + 6 ≤ (L : Int) ∧ L ≤ 3072) (I : Inv M) (hl : lv_has ls 7 (lvL b ad i)) (w : WS D aC ad A H0 M H locs) (hc : cells + 2 ≤ room_1.cells ∧ slots + 9 ≤ room_1.slots) (KK : ∀ (M' : Mem) (H' : Heap) (locs' : List Loc) (ls' : Array Slot) (cells' slots' : Nat), cells' ≤ cells + 2 → slots' ≤ slots + 9 → Inv M' → WS D aC ad A H0 M' H' locs' → lv_has ls' 7 (lvL b ad i) → W p l e room_1 s m args below meth c H' locs' cells' slots' Q (F0 m 1585 ls' [])) : W p l e room_1 s m args below meth c H locs cells slots Q (F0 m 838 ls []) := by
  have hx := X.1.1
  have hb := X.1.2.1
  have hi0 := X.2.2.1
  obtain ⟨⟨r, M1⟩, e1, ⟨r2, M2⟩, e2, er, I2⟩ := op_plan I (sc xs i 1)
  refine lv_aload_n hx hb dL_law_838 rfl (lv_at hl 1 rfl) ?_
  refine g_sc (k := 1) X w hX hbl hbA (lv_at hl 0 rfl) (lv_at hl 4 rfl) hi (by decide) dL_law_839 dL_law_840 dL_law_842 dL_law_843 dL_law_844 ?_
  refine g_cvi (As := [.int (i2 (sc xs i 1))]) (rest := []) X w (k_X10_plan hi0 _ inR_sc w.2.2 e1) lw10_plan cl_10 KD_0 ⟨rfl, rfl⟩ ⟨nle rfl, nle rfl⟩ ⟨by omega, by omega⟩ hl.1 rfl (nle rfl) dL_law_845 (fun hr H1 locs1 w1 => ?_)
  refine lv_aload_n hx hb dL_law_848 rfl (lv_at hl 2 rfl) ?_
  refine g_sc (k := 1) X w1 hX hbl hbA (lv_at hl 0 rfl) (lv_at hl 4 rfl) hi (by decide) dL_law_849 dL_law_850 dL_law_852 dL_law_853 dL_law_854 ?_
  refine g_cvi (As := [.int (i2 (sc xs i 1))]) (rest := [.int (i2 r)]) X w1 (k_X11_plan hi0 _ inR_sc w1.2.2 e2) lw11_plan cl_11 KD_80 ⟨rfl, rfl⟩ ⟨nle rfl, nle rfl⟩ ⟨by omega, by omega⟩ hl.1 rfl (nle rfl) dL_law_855 (fun hr2 H2 locs2 w2 => ?_)
  refine g_icmp_eq (tgt := 1585) X hr hr2 dL_law_858 (by decide) (fun _ => ?_) (fun z => absurd er.symm z)
  exact KK M2 _ _ _ _ _ (by omega) (by omega) I2 w2 hl
set_option maxRecDepth 100000 in
set_option maxHeartbeats 4000000 in
theorem q_planned (X : CX p s m args c cL_law 7 RL D aC ad sg A H0) (hX : va_X b L xs s H0) (hbl : b < H0.size) (hbA : ¬ A b) {i : Int} (hi : 0 ≤ i ∧ i + 6 ≤ (L : Int) ∧ L ≤ 3072) (I : Inv M) (hl : lv_has ls 7 (lvL b ad i)) (w : WS D aC ad A H0 M H locs) (hc : cells + 2 ≤ room_1.cells ∧ slots + 9 ≤ room_1.slots) (KK : ∀ (M' : Mem) (H' : Heap) (locs' : List Loc) (ls' : Array Slot) (cells' slots' : Nat), cells' ≤ cells + 2 → slots' ≤ slots + 9 → Inv M' → WS D aC ad A H0 M' H' locs' → lv_has ls' 7 (lvL b ad i) → W p l e room_1 s m args below meth c H' locs' cells' slots' Q (F0 m 1585 ls' [])) : W p l e room_1 s m args below meth c H locs cells slots Q (F0 m 863 ls []) := by
  have hx := X.1.1
  have hb := X.1.2.1
  have hi0 := X.2.2.1
  obtain ⟨⟨r, M1⟩, e1, ⟨r2, M2⟩, e2, er, I2⟩ := op_planned I (sc xs i 1) (sc xs i 2)
  refine lv_aload_n hx hb dL_law_863 rfl (lv_at hl 1 rfl) ?_
  refine g_sc (k := 1) X w hX hbl hbA (lv_at hl 0 rfl) (lv_at hl 4 rfl) hi (by decide) dL_law_864 dL_law_865 dL_law_867 dL_law_868 dL_law_869 ?_
  refine g_sc (k := 2) X w hX hbl hbA (lv_at hl 0 rfl) (lv_at hl 4 rfl) hi (by decide) dL_law_870 dL_law_871 dL_law_873 dL_law_874 dL_law_875 ?_
  refine g_cvi (As := [.int (i2 (sc xs i 1)), .int (i2 (sc xs i 2))]) (rest := []) X w (k_X10_planned hi0 _ inR_sc _ inR_sc w.2.2 e1) lw10_planned cl_10 KD_0 ⟨rfl, rfl⟩ ⟨nle rfl, nle rfl⟩ ⟨by omega, by omega⟩ hl.1 rfl (nle rfl) dL_law_876 (fun hr H1 locs1 w1 => ?_)
  refine lv_aload_n hx hb dL_law_879 rfl (lv_at hl 2 rfl) ?_
  refine g_sc (k := 1) X w1 hX hbl hbA (lv_at hl 0 rfl) (lv_at hl 4 rfl) hi (by decide) dL_law_880 dL_law_881 dL_law_883 dL_law_884 dL_law_885 ?_
  refine g_sc (k := 2) X w1 hX hbl hbA (lv_at hl 0 rfl) (lv_at hl 4 rfl) hi (by decide) dL_law_886 dL_law_887 dL_law_889 dL_law_890 dL_law_891 ?_
  refine g_cvi (As := [.int (i2 (sc xs i 1)), .int (i2 (sc xs i 2))]) (rest := [.int (i2 r)]) X w1 (k_X11_planned hi0 _ inR_sc _ inR_sc w1.2.2 e2) lw11_planned cl_11 KD_80 ⟨rfl, rfl⟩ ⟨nle rfl, nle rfl⟩ ⟨by omega, by omega⟩ hl.1 rfl (nle rfl) dL_law_892 (fun hr2 H2 locs2 w2 => ?_)
  refine g_icmp_eq (tgt := 1585) X hr hr2 dL_law_895 (by decide) (fun _ => ?_) (fun z => absurd er.symm z)
  exact KK M2 _ _ _ _ _ (by omega) (by omega) I2 w2 hl
set_option maxRecDepth 100000 in
set_option maxHeartbeats 4000000 in
theorem q_keep (X : CX p s m args c cL_law 7 RL D aC ad sg A H0) (hX : va_X b L xs s H0) (hbl : b < H0.size) (hbA : ¬ A b) {i : Int} (hi : 0 ≤ i ∧ i + 6 ≤ (L : Int) ∧ L ≤ 3072) (I : Inv M) (hl : lv_has ls 7 (lvL b ad i)) (w : WS D aC ad A H0 M H locs) (hc : cells + 2 ≤ room_1.cells ∧ slots + 9 ≤ room_1.slots) (KK : ∀ (M' : Mem) (H' : Heap) (locs' : List Loc) (ls' : Array Slot) (cells' slots' : Nat), cells' ≤ cells + 2 → slots' ≤ slots + 9 → Inv M' → WS D aC ad A H0 M' H' locs' → lv_has ls' 7 (lvL b ad i) → W p l e room_1 s m args below meth c H' locs' cells' slots' Q (F0 m 1585 ls' [])) : W p l e room_1 s m args below meth c H locs cells slots Q (F0 m 900 ls []) := by
  have hx := X.1.1
  have hb := X.1.2.1
  have hi0 := X.2.2.1
  obtain ⟨⟨r, M1⟩, e1, ⟨r2, M2⟩, e2, er, I2⟩ := op_keep I
  refine lv_aload_n hx hb dL_law_900 rfl (lv_at hl 1 rfl) ?_
  refine g_cvi (As := []) (rest := []) X w (k_X10_keep hi0  w.2.2 e1) lw10_keep cl_10 KD_0 ⟨rfl, rfl⟩ ⟨nle rfl, nle rfl⟩ ⟨by omega, by omega⟩ hl.1 rfl (nle rfl) dL_law_901 (fun hr H1 locs1 w1 => ?_)
  refine lv_aload_n hx hb dL_law_904 rfl (lv_at hl 2 rfl) ?_
  refine g_cvi (As := []) (rest := [.int (i2 r)]) X w1 (k_X11_keep hi0  w1.2.2 e2) lw11_keep cl_11 KD_80 ⟨rfl, rfl⟩ ⟨nle rfl, nle rfl⟩ ⟨by omega, by omega⟩ hl.1 rfl (nle rfl) dL_law_905 (fun hr2 H2 locs2 w2 => ?_)
  refine g_icmp_eq (tgt := 1585) X hr hr2 dL_law_908 (by decide) (fun _ => ?_) (fun z => absurd er.symm z)
  exact KK M2 _ _ _ _ _ (by omega) (by omega) I2 w2 hl
set_option maxRecDepth 100000 in
set_option maxHeartbeats 4000000 in
theorem q_make (X : CX p s m args c cL_law 7 RL D aC ad sg A H0) (hX : va_X b L xs s H0) (hbl : b < H0.size) (hbA : ¬ A b) {i : Int} (hi : 0 ≤ i ∧ i + 6 ≤ (L : Int) ∧ L ≤ 3072) (I : Inv M) (hl : lv_has ls 7 (lvL b ad i)) (w : WS D aC ad A H0 M H locs) (hc : cells + 2 ≤ room_1.cells ∧ slots + 9 ≤ room_1.slots) (KK : ∀ (M' : Mem) (H' : Heap) (locs' : List Loc) (ls' : Array Slot) (cells' slots' : Nat), cells' ≤ cells + 2 → slots' ≤ slots + 9 → Inv M' → WS D aC ad A H0 M' H' locs' → lv_has ls' 7 (lvL b ad i) → W p l e room_1 s m args below meth c H' locs' cells' slots' Q (F0 m 1585 ls' [])) : W p l e room_1 s m args below meth c H locs cells slots Q (F0 m 913 ls []) := by
  have hx := X.1.1
  have hb := X.1.2.1
  have hi0 := X.2.2.1
  obtain ⟨⟨r, M1⟩, e1, ⟨r2, M2⟩, e2, er, I2⟩ := op_make I
  refine lv_aload_n hx hb dL_law_913 rfl (lv_at hl 1 rfl) ?_
  refine g_cvi (As := []) (rest := []) X w (k_X10_make hi0  w.2.2 e1) lw10_make cl_10 KD_0 ⟨rfl, rfl⟩ ⟨nle rfl, nle rfl⟩ ⟨by omega, by omega⟩ hl.1 rfl (nle rfl) dL_law_914 (fun hr H1 locs1 w1 => ?_)
  refine lv_aload_n hx hb dL_law_917 rfl (lv_at hl 2 rfl) ?_
  refine g_cvi (As := []) (rest := [.int (i2 r)]) X w1 (k_X11_make hi0  w1.2.2 e2) lw11_make cl_11 KD_80 ⟨rfl, rfl⟩ ⟨nle rfl, nle rfl⟩ ⟨by omega, by omega⟩ hl.1 rfl (nle rfl) dL_law_918 (fun hr2 H2 locs2 w2 => ?_)
  refine g_icmp_eq (tgt := 1585) X hr hr2 dL_law_921 (by decide) (fun _ => ?_) (fun z => absurd er.symm z)
  exact KK M2 _ _ _ _ _ (by omega) (by omega) I2 w2 hl
set_option maxRecDepth 100000 in
set_option maxHeartbeats 4000000 in
theorem q_steps (X : CX p s m args c cL_law 7 RL D aC ad sg A H0) (hX : va_X b L xs s H0) (hbl : b < H0.size) (hbA : ¬ A b) {i : Int} (hi : 0 ≤ i ∧ i + 6 ≤ (L : Int) ∧ L ≤ 3072) (I : Inv M) (hl : lv_has ls 7 (lvL b ad i)) (w : WS D aC ad A H0 M H locs) (hc : cells + 2 ≤ room_1.cells ∧ slots + 9 ≤ room_1.slots) (KK : ∀ (M' : Mem) (H' : Heap) (locs' : List Loc) (ls' : Array Slot) (cells' slots' : Nat), cells' ≤ cells + 2 → slots' ≤ slots + 9 → Inv M' → WS D aC ad A H0 M' H' locs' → lv_has ls' 7 (lvL b ad i) → W p l e room_1 s m args below meth c H' locs' cells' slots' Q (F0 m 1585 ls' [])) : W p l e room_1 s m args below meth c H locs cells slots Q (F0 m 926 ls []) := by
  have hx := X.1.1
  have hb := X.1.2.1
  have hi0 := X.2.2.1
  obtain ⟨⟨r, M1⟩, e1, ⟨r2, M2⟩, e2, er, I2⟩ := op_steps I
  obtain ⟨e1, eM⟩ := pr_of e1
  subst eM
  refine lv_aload_n hx hb dL_law_926 rfl (lv_at hl 1 rfl) ?_
  refine g_cvi (As := []) (rest := []) X w (k_X10_steps hi0  w.2.2 e1) lw10_steps cl_10 KD_0 ⟨rfl, rfl⟩ ⟨nle rfl, nle rfl⟩ ⟨by omega, by omega⟩ hl.1 rfl (nle rfl) dL_law_927 (fun hr H1 locs1 w1 => ?_)
  refine lv_aload_n hx hb dL_law_930 rfl (lv_at hl 2 rfl) ?_
  refine g_cvi (As := []) (rest := [.int (i2 r)]) X w1 (k_X11_steps hi0  w1.2.2 e2) lw11_steps cl_11 KD_80 ⟨rfl, rfl⟩ ⟨nle rfl, nle rfl⟩ ⟨by omega, by omega⟩ hl.1 rfl (nle rfl) dL_law_931 (fun hr2 H2 locs2 w2 => ?_)
  refine g_icmp_eq (tgt := 1585) X hr hr2 dL_law_934 (by decide) (fun _ => ?_) (fun z => absurd er.symm z)
  exact KK M2 _ _ _ _ _ (by omega) (by omega) I2 w2 hl
set_option maxRecDepth 100000 in
set_option maxHeartbeats 4000000 in
theorem q_late (X : CX p s m args c cL_law 7 RL D aC ad sg A H0) (hX : va_X b L xs s H0) (hbl : b < H0.size) (hbA : ¬ A b) {i : Int} (hi : 0 ≤ i ∧ i + 6 ≤ (L : Int) ∧ L ≤ 3072) (I : Inv M) (hl : lv_has ls 7 (lvL b ad i)) (w : WS D aC ad A H0 M H locs) (hc : cells + 2 ≤ room_1.cells ∧ slots + 9 ≤ room_1.slots) (KK : ∀ (M' : Mem) (H' : Heap) (locs' : List Loc) (ls' : Array Slot) (cells' slots' : Nat), cells' ≤ cells + 2 → slots' ≤ slots + 9 → Inv M' → WS D aC ad A H0 M' H' locs' → lv_has ls' 7 (lvL b ad i) → W p l e room_1 s m args below meth c H' locs' cells' slots' Q (F0 m 1585 ls' [])) : W p l e room_1 s m args below meth c H locs cells slots Q (F0 m 939 ls []) := by
  have hx := X.1.1
  have hb := X.1.2.1
  have hi0 := X.2.2.1
  obtain ⟨⟨r, M1⟩, e1, ⟨r2, M2⟩, e2, er, I2⟩ := op_late I (sc xs i 1)
  refine lv_aload_n hx hb dL_law_939 rfl (lv_at hl 1 rfl) ?_
  refine g_sc (k := 1) X w hX hbl hbA (lv_at hl 0 rfl) (lv_at hl 4 rfl) hi (by decide) dL_law_940 dL_law_941 dL_law_943 dL_law_944 dL_law_945 ?_
  refine g_cvi (As := [.int (i2 (sc xs i 1))]) (rest := []) X w (k_X10_late hi0 _ inR_sc w.2.2 e1) lw10_late cl_10 KD_0 ⟨rfl, rfl⟩ ⟨nle rfl, nle rfl⟩ ⟨by omega, by omega⟩ hl.1 rfl (nle rfl) dL_law_946 (fun hr H1 locs1 w1 => ?_)
  refine lv_aload_n hx hb dL_law_949 rfl (lv_at hl 2 rfl) ?_
  refine g_sc (k := 1) X w1 hX hbl hbA (lv_at hl 0 rfl) (lv_at hl 4 rfl) hi (by decide) dL_law_950 dL_law_951 dL_law_953 dL_law_954 dL_law_955 ?_
  refine g_cvi (As := [.int (i2 (sc xs i 1))]) (rest := [.int (i2 r)]) X w1 (k_X11_late hi0 _ inR_sc w1.2.2 e2) lw11_late cl_11 KD_80 ⟨rfl, rfl⟩ ⟨nle rfl, nle rfl⟩ ⟨by omega, by omega⟩ hl.1 rfl (nle rfl) dL_law_956 (fun hr2 H2 locs2 w2 => ?_)
  refine g_icmp_eq (tgt := 1585) X hr hr2 dL_law_959 (by decide) (fun _ => ?_) (fun z => absurd er.symm z)
  exact KK M2 _ _ _ _ _ (by omega) (by omega) I2 w2 hl
set_option maxRecDepth 100000 in
set_option maxHeartbeats 4000000 in
theorem q_change (X : CX p s m args c cL_law 7 RL D aC ad sg A H0) (hX : va_X b L xs s H0) (hbl : b < H0.size) (hbA : ¬ A b) {i : Int} (hi : 0 ≤ i ∧ i + 6 ≤ (L : Int) ∧ L ≤ 3072) (I : Inv M) (hl : lv_has ls 7 (lvL b ad i)) (w : WS D aC ad A H0 M H locs) (hc : cells + 2 ≤ room_1.cells ∧ slots + 9 ≤ room_1.slots) (KK : ∀ (M' : Mem) (H' : Heap) (locs' : List Loc) (ls' : Array Slot) (cells' slots' : Nat), cells' ≤ cells + 2 → slots' ≤ slots + 9 → Inv M' → WS D aC ad A H0 M' H' locs' → lv_has ls' 7 (lvL b ad i) → W p l e room_1 s m args below meth c H' locs' cells' slots' Q (F0 m 1585 ls' [])) : W p l e room_1 s m args below meth c H locs cells slots Q (F0 m 964 ls []) := by
  have hx := X.1.1
  have hb := X.1.2.1
  have hi0 := X.2.2.1
  obtain ⟨⟨r, M1⟩, e1, ⟨r2, M2⟩, e2, er, I2⟩ := op_change I
  refine lv_aload_n hx hb dL_law_964 rfl (lv_at hl 1 rfl) ?_
  refine g_cvi (As := []) (rest := []) X w (k_X10_change hi0  w.2.2 e1) lw10_change cl_10 KD_0 ⟨rfl, rfl⟩ ⟨nle rfl, nle rfl⟩ ⟨by omega, by omega⟩ hl.1 rfl (nle rfl) dL_law_965 (fun hr H1 locs1 w1 => ?_)
  refine lv_aload_n hx hb dL_law_968 rfl (lv_at hl 2 rfl) ?_
  refine g_cvi (As := []) (rest := [.int (i2 r)]) X w1 (k_X11_change hi0  w1.2.2 e2) lw11_change cl_11 KD_80 ⟨rfl, rfl⟩ ⟨nle rfl, nle rfl⟩ ⟨by omega, by omega⟩ hl.1 rfl (nle rfl) dL_law_969 (fun hr2 H2 locs2 w2 => ?_)
  refine g_icmp_eq (tgt := 1585) X hr hr2 dL_law_972 (by decide) (fun _ => ?_) (fun z => absurd er.symm z)
  exact KK M2 _ _ _ _ _ (by omega) (by omega) I2 w2 hl
set_option maxRecDepth 100000 in
set_option maxHeartbeats 4000000 in
theorem q_classOf (X : CX p s m args c cL_law 7 RL D aC ad sg A H0) (hX : va_X b L xs s H0) (hbl : b < H0.size) (hbA : ¬ A b) {i : Int} (hi : 0 ≤ i ∧ i + 6 ≤ (L : Int) ∧ L ≤ 3072) (I : Inv M) (hl : lv_has ls 7 (lvL b ad i)) (w : WS D aC ad A H0 M H locs) (hc : cells + 2 ≤ room_1.cells ∧ slots + 9 ≤ room_1.slots) (KK : ∀ (M' : Mem) (H' : Heap) (locs' : List Loc) (ls' : Array Slot) (cells' slots' : Nat), cells' ≤ cells + 2 → slots' ≤ slots + 9 → Inv M' → WS D aC ad A H0 M' H' locs' → lv_has ls' 7 (lvL b ad i) → W p l e room_1 s m args below meth c H' locs' cells' slots' Q (F0 m 1585 ls' [])) : W p l e room_1 s m args below meth c H locs cells slots Q (F0 m 977 ls []) := by
  have hx := X.1.1
  have hb := X.1.2.1
  have hi0 := X.2.2.1
  obtain ⟨⟨r, M1⟩, e1, ⟨r2, M2⟩, e2, er, I2⟩ := op_classOf I (sc xs i 1)
  obtain ⟨e1, eM⟩ := pr_of e1
  subst eM
  refine lv_aload_n hx hb dL_law_977 rfl (lv_at hl 1 rfl) ?_
  refine g_sc (k := 1) X w hX hbl hbA (lv_at hl 0 rfl) (lv_at hl 4 rfl) hi (by decide) dL_law_978 dL_law_979 dL_law_981 dL_law_982 dL_law_983 ?_
  refine g_cvi (As := [.int (i2 (sc xs i 1))]) (rest := []) X w (k_X10_classOf hi0 _ inR_sc w.2.2 e1) lw10_classOf cl_10 KD_0 ⟨rfl, rfl⟩ ⟨nle rfl, nle rfl⟩ ⟨by omega, by omega⟩ hl.1 rfl (nle rfl) dL_law_984 (fun hr H1 locs1 w1 => ?_)
  refine lv_aload_n hx hb dL_law_987 rfl (lv_at hl 2 rfl) ?_
  refine g_sc (k := 1) X w1 hX hbl hbA (lv_at hl 0 rfl) (lv_at hl 4 rfl) hi (by decide) dL_law_988 dL_law_989 dL_law_991 dL_law_992 dL_law_993 ?_
  refine g_cvi (As := [.int (i2 (sc xs i 1))]) (rest := [.int (i2 r)]) X w1 (k_X11_classOf hi0 _ inR_sc w1.2.2 e2) lw11_classOf cl_11 KD_80 ⟨rfl, rfl⟩ ⟨nle rfl, nle rfl⟩ ⟨by omega, by omega⟩ hl.1 rfl (nle rfl) dL_law_994 (fun hr2 H2 locs2 w2 => ?_)
  refine g_icmp_eq (tgt := 1585) X hr hr2 dL_law_997 (by decide) (fun _ => ?_) (fun z => absurd er.symm z)
  exact KK M2 _ _ _ _ _ (by omega) (by omega) I2 w2 hl
set_option maxRecDepth 100000 in
set_option maxHeartbeats 4000000 in
theorem q_was (X : CX p s m args c cL_law 7 RL D aC ad sg A H0) (hX : va_X b L xs s H0) (hbl : b < H0.size) (hbA : ¬ A b) {i : Int} (hi : 0 ≤ i ∧ i + 6 ≤ (L : Int) ∧ L ≤ 3072) (I : Inv M) (hl : lv_has ls 7 (lvL b ad i)) (w : WS D aC ad A H0 M H locs) (hc : cells + 2 ≤ room_1.cells ∧ slots + 9 ≤ room_1.slots) (KK : ∀ (M' : Mem) (H' : Heap) (locs' : List Loc) (ls' : Array Slot) (cells' slots' : Nat), cells' ≤ cells + 2 → slots' ≤ slots + 9 → Inv M' → WS D aC ad A H0 M' H' locs' → lv_has ls' 7 (lvL b ad i) → W p l e room_1 s m args below meth c H' locs' cells' slots' Q (F0 m 1585 ls' [])) : W p l e room_1 s m args below meth c H locs cells slots Q (F0 m 1002 ls []) := by
  have hx := X.1.1
  have hb := X.1.2.1
  have hi0 := X.2.2.1
  obtain ⟨⟨r, M1⟩, e1, ⟨r2, M2⟩, e2, er, I2⟩ := op_was I (sc xs i 1) (sc xs i 2)
  obtain ⟨e1, eM⟩ := pr_of e1
  subst eM
  refine lv_aload_n hx hb dL_law_1002 rfl (lv_at hl 1 rfl) ?_
  refine g_sc (k := 1) X w hX hbl hbA (lv_at hl 0 rfl) (lv_at hl 4 rfl) hi (by decide) dL_law_1003 dL_law_1004 dL_law_1006 dL_law_1007 dL_law_1008 ?_
  refine g_sc (k := 2) X w hX hbl hbA (lv_at hl 0 rfl) (lv_at hl 4 rfl) hi (by decide) dL_law_1009 dL_law_1010 dL_law_1012 dL_law_1013 dL_law_1014 ?_
  refine g_cvi (As := [.int (i2 (sc xs i 1)), .int (i2 (sc xs i 2))]) (rest := []) X w (k_X10_was hi0 _ inR_sc _ inR_sc w.2.2 e1) lw10_was cl_10 KD_0 ⟨rfl, rfl⟩ ⟨nle rfl, nle rfl⟩ ⟨by omega, by omega⟩ hl.1 rfl (nle rfl) dL_law_1015 (fun hr H1 locs1 w1 => ?_)
  refine lv_aload_n hx hb dL_law_1018 rfl (lv_at hl 2 rfl) ?_
  refine g_sc (k := 1) X w1 hX hbl hbA (lv_at hl 0 rfl) (lv_at hl 4 rfl) hi (by decide) dL_law_1019 dL_law_1020 dL_law_1022 dL_law_1023 dL_law_1024 ?_
  refine g_sc (k := 2) X w1 hX hbl hbA (lv_at hl 0 rfl) (lv_at hl 4 rfl) hi (by decide) dL_law_1025 dL_law_1026 dL_law_1028 dL_law_1029 dL_law_1030 ?_
  refine g_cvi (As := [.int (i2 (sc xs i 1)), .int (i2 (sc xs i 2))]) (rest := [.int (i2 r)]) X w1 (k_X11_was hi0 _ inR_sc _ inR_sc w1.2.2 e2) lw11_was cl_11 KD_80 ⟨rfl, rfl⟩ ⟨nle rfl, nle rfl⟩ ⟨by omega, by omega⟩ hl.1 rfl (nle rfl) dL_law_1031 (fun hr2 H2 locs2 w2 => ?_)
  refine g_icmp_eq (tgt := 1585) X hr hr2 dL_law_1034 (by decide) (fun _ => ?_) (fun z => absurd er.symm z)
  exact KK M2 _ _ _ _ _ (by omega) (by omega) I2 w2 hl
set_option maxRecDepth 100000 in
set_option maxHeartbeats 4000000 in
theorem q_served (X : CX p s m args c cL_law 7 RL D aC ad sg A H0) (hX : va_X b L xs s H0) (hbl : b < H0.size) (hbA : ¬ A b) {i : Int} (hi : 0 ≤ i ∧ i + 6 ≤ (L : Int) ∧ L ≤ 3072) (I : Inv M) (hl : lv_has ls 7 (lvL b ad i)) (w : WS D aC ad A H0 M H locs) (hc : cells + 2 ≤ room_1.cells ∧ slots + 9 ≤ room_1.slots) (KK : ∀ (M' : Mem) (H' : Heap) (locs' : List Loc) (ls' : Array Slot) (cells' slots' : Nat), cells' ≤ cells + 2 → slots' ≤ slots + 9 → Inv M' → WS D aC ad A H0 M' H' locs' → lv_has ls' 7 (lvL b ad i) → W p l e room_1 s m args below meth c H' locs' cells' slots' Q (F0 m 1585 ls' [])) : W p l e room_1 s m args below meth c H locs cells slots Q (F0 m 1039 ls []) := by
  have hx := X.1.1
  have hb := X.1.2.1
  have hi0 := X.2.2.1
  obtain ⟨⟨r, M1⟩, e1, ⟨r2, M2⟩, e2, er, I2⟩ := op_served I (sc xs i 1)
  refine lv_aload_n hx hb dL_law_1039 rfl (lv_at hl 1 rfl) ?_
  refine g_sc (k := 1) X w hX hbl hbA (lv_at hl 0 rfl) (lv_at hl 4 rfl) hi (by decide) dL_law_1040 dL_law_1041 dL_law_1043 dL_law_1044 dL_law_1045 ?_
  refine g_cvi (As := [.int (i2 (sc xs i 1))]) (rest := []) X w (k_X10_served hi0 _ inR_sc w.2.2 e1) lw10_served cl_10 KD_0 ⟨rfl, rfl⟩ ⟨nle rfl, nle rfl⟩ ⟨by omega, by omega⟩ hl.1 rfl (nle rfl) dL_law_1046 (fun hr H1 locs1 w1 => ?_)
  refine lv_aload_n hx hb dL_law_1049 rfl (lv_at hl 2 rfl) ?_
  refine g_sc (k := 1) X w1 hX hbl hbA (lv_at hl 0 rfl) (lv_at hl 4 rfl) hi (by decide) dL_law_1050 dL_law_1051 dL_law_1053 dL_law_1054 dL_law_1055 ?_
  refine g_cvi (As := [.int (i2 (sc xs i 1))]) (rest := [.int (i2 r)]) X w1 (k_X11_served hi0 _ inR_sc w1.2.2 e2) lw11_served cl_11 KD_80 ⟨rfl, rfl⟩ ⟨nle rfl, nle rfl⟩ ⟨by omega, by omega⟩ hl.1 rfl (nle rfl) dL_law_1056 (fun hr2 H2 locs2 w2 => ?_)
  refine g_icmp_eq (tgt := 1585) X hr hr2 dL_law_1059 (by decide) (fun _ => ?_) (fun z => absurd er.symm z)
  exact KK M2 _ _ _ _ _ (by omega) (by omega) I2 w2 hl
set_option maxRecDepth 100000 in
set_option maxHeartbeats 4000000 in
theorem q_harm (X : CX p s m args c cL_law 7 RL D aC ad sg A H0) (hX : va_X b L xs s H0) (hbl : b < H0.size) (hbA : ¬ A b) {i : Int} (hi : 0 ≤ i ∧ i + 6 ≤ (L : Int) ∧ L ≤ 3072) (I : Inv M) (hl : lv_has ls 7 (lvL b ad i)) (w : WS D aC ad A H0 M H locs) (hc : cells + 2 ≤ room_1.cells ∧ slots + 9 ≤ room_1.slots) (KK : ∀ (M' : Mem) (H' : Heap) (locs' : List Loc) (ls' : Array Slot) (cells' slots' : Nat), cells' ≤ cells + 2 → slots' ≤ slots + 9 → Inv M' → WS D aC ad A H0 M' H' locs' → lv_has ls' 7 (lvL b ad i) → W p l e room_1 s m args below meth c H' locs' cells' slots' Q (F0 m 1585 ls' [])) : W p l e room_1 s m args below meth c H locs cells slots Q (F0 m 1064 ls []) := by
  have hx := X.1.1
  have hb := X.1.2.1
  have hi0 := X.2.2.1
  obtain ⟨⟨r, M1⟩, e1, ⟨r2, M2⟩, e2, er, I2⟩ := op_harm I (sc xs i 1)
  refine lv_aload_n hx hb dL_law_1064 rfl (lv_at hl 1 rfl) ?_
  refine g_sc (k := 1) X w hX hbl hbA (lv_at hl 0 rfl) (lv_at hl 4 rfl) hi (by decide) dL_law_1065 dL_law_1066 dL_law_1068 dL_law_1069 dL_law_1070 ?_
  refine g_cvi (As := [.int (i2 (sc xs i 1))]) (rest := []) X w (k_X10_harm hi0 _ inR_sc w.2.2 e1) lw10_harm cl_10 KD_0 ⟨rfl, rfl⟩ ⟨nle rfl, nle rfl⟩ ⟨by omega, by omega⟩ hl.1 rfl (nle rfl) dL_law_1071 (fun hr H1 locs1 w1 => ?_)
  refine lv_aload_n hx hb dL_law_1074 rfl (lv_at hl 2 rfl) ?_
  refine g_sc (k := 1) X w1 hX hbl hbA (lv_at hl 0 rfl) (lv_at hl 4 rfl) hi (by decide) dL_law_1075 dL_law_1076 dL_law_1078 dL_law_1079 dL_law_1080 ?_
  refine g_cvi (As := [.int (i2 (sc xs i 1))]) (rest := [.int (i2 r)]) X w1 (k_X11_harm hi0 _ inR_sc w1.2.2 e2) lw11_harm cl_11 KD_80 ⟨rfl, rfl⟩ ⟨nle rfl, nle rfl⟩ ⟨by omega, by omega⟩ hl.1 rfl (nle rfl) dL_law_1081 (fun hr2 H2 locs2 w2 => ?_)
  refine g_icmp_eq (tgt := 1585) X hr hr2 dL_law_1084 (by decide) (fun _ => ?_) (fun z => absurd er.symm z)
  exact KK M2 _ _ _ _ _ (by omega) (by omega) I2 w2 hl
set_option maxRecDepth 100000 in
set_option maxHeartbeats 4000000 in
theorem q_allowed (X : CX p s m args c cL_law 7 RL D aC ad sg A H0) (hX : va_X b L xs s H0) (hbl : b < H0.size) (hbA : ¬ A b) {i : Int} (hi : 0 ≤ i ∧ i + 6 ≤ (L : Int) ∧ L ≤ 3072) (I : Inv M) (hl : lv_has ls 7 (lvL b ad i)) (w : WS D aC ad A H0 M H locs) (hc : cells + 2 ≤ room_1.cells ∧ slots + 9 ≤ room_1.slots) (KK : ∀ (M' : Mem) (H' : Heap) (locs' : List Loc) (ls' : Array Slot) (cells' slots' : Nat), cells' ≤ cells + 2 → slots' ≤ slots + 9 → Inv M' → WS D aC ad A H0 M' H' locs' → lv_has ls' 7 (lvL b ad i) → W p l e room_1 s m args below meth c H' locs' cells' slots' Q (F0 m 1585 ls' [])) : W p l e room_1 s m args below meth c H locs cells slots Q (F0 m 1089 ls []) := by
  have hx := X.1.1
  have hb := X.1.2.1
  have hi0 := X.2.2.1
  obtain ⟨⟨r, M1⟩, e1, ⟨r2, M2⟩, e2, er, I2⟩ := op_allowed I (sc xs i 1)
  refine lv_aload_n hx hb dL_law_1089 rfl (lv_at hl 1 rfl) ?_
  refine g_sc (k := 1) X w hX hbl hbA (lv_at hl 0 rfl) (lv_at hl 4 rfl) hi (by decide) dL_law_1090 dL_law_1091 dL_law_1093 dL_law_1094 dL_law_1095 ?_
  refine g_cvi (As := [.int (i2 (sc xs i 1))]) (rest := []) X w (k_X10_allowed hi0 _ inR_sc w.2.2 e1) lw10_allowed cl_10 KD_0 ⟨rfl, rfl⟩ ⟨nle rfl, nle rfl⟩ ⟨by omega, by omega⟩ hl.1 rfl (nle rfl) dL_law_1096 (fun hr H1 locs1 w1 => ?_)
  refine lv_aload_n hx hb dL_law_1099 rfl (lv_at hl 2 rfl) ?_
  refine g_sc (k := 1) X w1 hX hbl hbA (lv_at hl 0 rfl) (lv_at hl 4 rfl) hi (by decide) dL_law_1100 dL_law_1101 dL_law_1103 dL_law_1104 dL_law_1105 ?_
  refine g_cvi (As := [.int (i2 (sc xs i 1))]) (rest := [.int (i2 r)]) X w1 (k_X11_allowed hi0 _ inR_sc w1.2.2 e2) lw11_allowed cl_11 KD_80 ⟨rfl, rfl⟩ ⟨nle rfl, nle rfl⟩ ⟨by omega, by omega⟩ hl.1 rfl (nle rfl) dL_law_1106 (fun hr2 H2 locs2 w2 => ?_)
  refine g_icmp_eq (tgt := 1585) X hr hr2 dL_law_1109 (by decide) (fun _ => ?_) (fun z => absurd er.symm z)
  exact KK M2 _ _ _ _ _ (by omega) (by omega) I2 w2 hl
set_option maxRecDepth 100000 in
set_option maxHeartbeats 4000000 in
theorem q_swaps (X : CX p s m args c cL_law 7 RL D aC ad sg A H0) (hX : va_X b L xs s H0) (hbl : b < H0.size) (hbA : ¬ A b) {i : Int} (hi : 0 ≤ i ∧ i + 6 ≤ (L : Int) ∧ L ≤ 3072) (I : Inv M) (hl : lv_has ls 7 (lvL b ad i)) (w : WS D aC ad A H0 M H locs) (hc : cells + 2 ≤ room_1.cells ∧ slots + 9 ≤ room_1.slots) (KK : ∀ (M' : Mem) (H' : Heap) (locs' : List Loc) (ls' : Array Slot) (cells' slots' : Nat), cells' ≤ cells + 2 → slots' ≤ slots + 9 → Inv M' → WS D aC ad A H0 M' H' locs' → lv_has ls' 7 (lvL b ad i) → W p l e room_1 s m args below meth c H' locs' cells' slots' Q (F0 m 1585 ls' [])) : W p l e room_1 s m args below meth c H locs cells slots Q (F0 m 1114 ls []) := by
  have hx := X.1.1
  have hb := X.1.2.1
  have hi0 := X.2.2.1
  obtain ⟨⟨r, M1⟩, e1, ⟨r2, M2⟩, e2, er, I2⟩ := op_swaps I
  refine lv_aload_n hx hb dL_law_1114 rfl (lv_at hl 1 rfl) ?_
  refine g_cvi (As := []) (rest := []) X w (k_X10_swaps hi0  w.2.2 e1) lw10_swaps cl_10 KD_0 ⟨rfl, rfl⟩ ⟨nle rfl, nle rfl⟩ ⟨by omega, by omega⟩ hl.1 rfl (nle rfl) dL_law_1115 (fun hr H1 locs1 w1 => ?_)
  refine lv_aload_n hx hb dL_law_1118 rfl (lv_at hl 2 rfl) ?_
  refine g_cvi (As := []) (rest := [.int (i2 r)]) X w1 (k_X11_swaps_ hi0  w1.2.2 e2) lw11_swaps_ cl_11 KD_80 ⟨rfl, rfl⟩ ⟨nle rfl, nle rfl⟩ ⟨by omega, by omega⟩ hl.1 rfl (nle rfl) dL_law_1119 (fun hr2 H2 locs2 w2 => ?_)
  refine g_icmp_eq (tgt := 1585) X hr hr2 dL_law_1122 (by decide) (fun _ => ?_) (fun z => absurd er.symm z)
  exact KK M2 _ _ _ _ _ (by omega) (by omega) I2 w2 hl
set_option maxRecDepth 100000 in
set_option maxHeartbeats 4000000 in
theorem q_swap (X : CX p s m args c cL_law 7 RL D aC ad sg A H0) (hX : va_X b L xs s H0) (hbl : b < H0.size) (hbA : ¬ A b) {i : Int} (hi : 0 ≤ i ∧ i + 6 ≤ (L : Int) ∧ L ≤ 3072) (I : Inv M) (hl : lv_has ls 7 (lvL b ad i)) (w : WS D aC ad A H0 M H locs) (hc : cells + 2 ≤ room_1.cells ∧ slots + 9 ≤ room_1.slots) (KK : ∀ (M' : Mem) (H' : Heap) (locs' : List Loc) (ls' : Array Slot) (cells' slots' : Nat), cells' ≤ cells + 2 → slots' ≤ slots + 9 → Inv M' → WS D aC ad A H0 M' H' locs' → lv_has ls' 7 (lvL b ad i) → W p l e room_1 s m args below meth c H' locs' cells' slots' Q (F0 m 1585 ls' [])) : W p l e room_1 s m args below meth c H locs cells slots Q (F0 m 1127 ls []) := by
  have hx := X.1.1
  have hb := X.1.2.1
  have hi0 := X.2.2.1
  obtain ⟨⟨r, M1⟩, e1, ⟨r2, M2⟩, e2, er, I2⟩ := op_swap I (sc xs i 1) (sc xs i 2) inR_sc
  refine lv_aload_n hx hb dL_law_1127 rfl (lv_at hl 1 rfl) ?_
  refine g_sc (k := 1) X w hX hbl hbA (lv_at hl 0 rfl) (lv_at hl 4 rfl) hi (by decide) dL_law_1128 dL_law_1129 dL_law_1131 dL_law_1132 dL_law_1133 ?_
  refine g_sc (k := 2) X w hX hbl hbA (lv_at hl 0 rfl) (lv_at hl 4 rfl) hi (by decide) dL_law_1134 dL_law_1135 dL_law_1137 dL_law_1138 dL_law_1139 ?_
  refine g_cvi (As := [.int (i2 (sc xs i 1)), .int (i2 (sc xs i 2))]) (rest := []) X w (k_X10_swap hi0 _ inR_sc _ inR_sc w.2.2 e1) lw10_swap cl_10 KD_0 ⟨rfl, rfl⟩ ⟨nle rfl, nle rfl⟩ ⟨by omega, by omega⟩ hl.1 rfl (nle rfl) dL_law_1140 (fun hr H1 locs1 w1 => ?_)
  refine lv_aload_n hx hb dL_law_1143 rfl (lv_at hl 2 rfl) ?_
  refine g_sc (k := 1) X w1 hX hbl hbA (lv_at hl 0 rfl) (lv_at hl 4 rfl) hi (by decide) dL_law_1144 dL_law_1145 dL_law_1147 dL_law_1148 dL_law_1149 ?_
  refine g_sc (k := 2) X w1 hX hbl hbA (lv_at hl 0 rfl) (lv_at hl 4 rfl) hi (by decide) dL_law_1150 dL_law_1151 dL_law_1153 dL_law_1154 dL_law_1155 ?_
  refine g_cvi (As := [.int (i2 (sc xs i 1)), .int (i2 (sc xs i 2))]) (rest := [.int (i2 r)]) X w1 (k_X11_swap hi0 _ inR_sc _ inR_sc w1.2.2 e2) lw11_swap cl_11 KD_80 ⟨rfl, rfl⟩ ⟨nle rfl, nle rfl⟩ ⟨by omega, by omega⟩ hl.1 rfl (nle rfl) dL_law_1156 (fun hr2 H2 locs2 w2 => ?_)
  refine g_icmp_eq (tgt := 1585) X hr hr2 dL_law_1159 (by decide) (fun _ => ?_) (fun z => absurd er.symm z)
  exact KK M2 _ _ _ _ _ (by omega) (by omega) I2 w2 hl
set_option maxRecDepth 100000 in
set_option maxHeartbeats 4000000 in
theorem q_lonely (X : CX p s m args c cL_law 7 RL D aC ad sg A H0) (hX : va_X b L xs s H0) (hbl : b < H0.size) (hbA : ¬ A b) {i : Int} (hi : 0 ≤ i ∧ i + 6 ≤ (L : Int) ∧ L ≤ 3072) (I : Inv M) (hl : lv_has ls 7 (lvL b ad i)) (w : WS D aC ad A H0 M H locs) (hc : cells + 2 ≤ room_1.cells ∧ slots + 9 ≤ room_1.slots) (KK : ∀ (M' : Mem) (H' : Heap) (locs' : List Loc) (ls' : Array Slot) (cells' slots' : Nat), cells' ≤ cells + 2 → slots' ≤ slots + 9 → Inv M' → WS D aC ad A H0 M' H' locs' → lv_has ls' 7 (lvL b ad i) → W p l e room_1 s m args below meth c H' locs' cells' slots' Q (F0 m 1585 ls' [])) : W p l e room_1 s m args below meth c H locs cells slots Q (F0 m 1232 ls []) := by
  have hx := X.1.1
  have hb := X.1.2.1
  have hi0 := X.2.2.1
  obtain ⟨⟨r, M1⟩, e1, ⟨r2, M2⟩, e2, er, I2⟩ := op_lonely I (i := sc xs i 1) inR_sc
  obtain ⟨e1, eM⟩ := pr_of e1
  subst eM
  refine lv_aload_n hx hb dL_law_1232 rfl (lv_at hl 1 rfl) ?_
  refine g_sc (k := 1) X w hX hbl hbA (lv_at hl 0 rfl) (lv_at hl 4 rfl) hi (by decide) dL_law_1233 dL_law_1234 dL_law_1236 dL_law_1237 dL_law_1238 ?_
  refine g_cvi (As := [.int (i2 (sc xs i 1))]) (rest := []) X w (k_X10_lonely hi0 _ inR_sc w.2.2 e1) lw10_lonely cl_10 KD_0 ⟨rfl, rfl⟩ ⟨nle rfl, nle rfl⟩ ⟨by omega, by omega⟩ hl.1 rfl (nle rfl) dL_law_1239 (fun hr H1 locs1 w1 => ?_)
  refine lv_aload_n hx hb dL_law_1242 rfl (lv_at hl 2 rfl) ?_
  refine g_sc (k := 1) X w1 hX hbl hbA (lv_at hl 0 rfl) (lv_at hl 4 rfl) hi (by decide) dL_law_1243 dL_law_1244 dL_law_1246 dL_law_1247 dL_law_1248 ?_
  refine g_cvi (As := [.int (i2 (sc xs i 1))]) (rest := [.int (i2 r)]) X w1 (k_X11_lonely hi0 _ inR_sc w1.2.2 e2) lw11_lonely cl_11 KD_80 ⟨rfl, rfl⟩ ⟨nle rfl, nle rfl⟩ ⟨by omega, by omega⟩ hl.1 rfl (nle rfl) dL_law_1249 (fun hr2 H2 locs2 w2 => ?_)
  refine g_icmp_eq (tgt := 1585) X hr hr2 dL_law_1252 (by decide) (fun _ => ?_) (fun z => absurd er.symm z)
  exact KK M2 _ _ _ _ _ (by omega) (by omega) I2 w2 hl
set_option maxRecDepth 100000 in
set_option maxHeartbeats 4000000 in
theorem q_ring (X : CX p s m args c cL_law 7 RL D aC ad sg A H0) (hX : va_X b L xs s H0) (hbl : b < H0.size) (hbA : ¬ A b) {i : Int} (hi : 0 ≤ i ∧ i + 6 ≤ (L : Int) ∧ L ≤ 3072) (I : Inv M) (hl : lv_has ls 7 (lvL b ad i)) (w : WS D aC ad A H0 M H locs) (hc : cells + 2 ≤ room_1.cells ∧ slots + 9 ≤ room_1.slots) (KK : ∀ (M' : Mem) (H' : Heap) (locs' : List Loc) (ls' : Array Slot) (cells' slots' : Nat), cells' ≤ cells + 2 → slots' ≤ slots + 9 → Inv M' → WS D aC ad A H0 M' H' locs' → lv_has ls' 7 (lvL b ad i) → W p l e room_1 s m args below meth c H' locs' cells' slots' Q (F0 m 1585 ls' [])) : W p l e room_1 s m args below meth c H locs cells slots Q (F0 m 1257 ls []) := by
  have hx := X.1.1
  have hb := X.1.2.1
  have hi0 := X.2.2.1
  obtain ⟨⟨r, M1⟩, e1, ⟨r2, M2⟩, e2, er, I2⟩ := op_ring I (sc xs i 1)
  obtain ⟨e1, eM⟩ := pr_of e1
  subst eM
  refine lv_aload_n hx hb dL_law_1257 rfl (lv_at hl 1 rfl) ?_
  refine g_sc (k := 1) X w hX hbl hbA (lv_at hl 0 rfl) (lv_at hl 4 rfl) hi (by decide) dL_law_1258 dL_law_1259 dL_law_1261 dL_law_1262 dL_law_1263 ?_
  refine g_cvi (As := [.int (i2 (sc xs i 1))]) (rest := []) X w (k_X10_ring hi0 _ inR_sc w.2.2 e1) lw10_ring cl_10 KD_0 ⟨rfl, rfl⟩ ⟨nle rfl, nle rfl⟩ ⟨by omega, by omega⟩ hl.1 rfl (nle rfl) dL_law_1264 (fun hr H1 locs1 w1 => ?_)
  refine lv_aload_n hx hb dL_law_1267 rfl (lv_at hl 2 rfl) ?_
  refine g_sc (k := 1) X w1 hX hbl hbA (lv_at hl 0 rfl) (lv_at hl 4 rfl) hi (by decide) dL_law_1268 dL_law_1269 dL_law_1271 dL_law_1272 dL_law_1273 ?_
  refine g_cvi (As := [.int (i2 (sc xs i 1))]) (rest := [.int (i2 r)]) X w1 (k_X11_ring hi0 _ inR_sc w1.2.2 e2) lw11_ring cl_11 KD_80 ⟨rfl, rfl⟩ ⟨nle rfl, nle rfl⟩ ⟨by omega, by omega⟩ hl.1 rfl (nle rfl) dL_law_1274 (fun hr2 H2 locs2 w2 => ?_)
  refine g_icmp_eq (tgt := 1585) X hr hr2 dL_law_1277 (by decide) (fun _ => ?_) (fun z => absurd er.symm z)
  exact KK M2 _ _ _ _ _ (by omega) (by omega) I2 w2 hl
set_option maxRecDepth 100000 in
set_option maxHeartbeats 4000000 in
theorem q_helper (X : CX p s m args c cL_law 7 RL D aC ad sg A H0) (hX : va_X b L xs s H0) (hbl : b < H0.size) (hbA : ¬ A b) {i : Int} (hi : 0 ≤ i ∧ i + 6 ≤ (L : Int) ∧ L ≤ 3072) (I : Inv M) (hl : lv_has ls 7 (lvL b ad i)) (w : WS D aC ad A H0 M H locs) (hc : cells + 2 ≤ room_1.cells ∧ slots + 9 ≤ room_1.slots) (KK : ∀ (M' : Mem) (H' : Heap) (locs' : List Loc) (ls' : Array Slot) (cells' slots' : Nat), cells' ≤ cells + 2 → slots' ≤ slots + 9 → Inv M' → WS D aC ad A H0 M' H' locs' → lv_has ls' 7 (lvL b ad i) → W p l e room_1 s m args below meth c H' locs' cells' slots' Q (F0 m 1585 ls' [])) : W p l e room_1 s m args below meth c H locs cells slots Q (F0 m 1282 ls []) := by
  have hx := X.1.1
  have hb := X.1.2.1
  have hi0 := X.2.2.1
  obtain ⟨⟨r, M1⟩, e1, ⟨r2, M2⟩, e2, er, I2⟩ := op_helper I (sc xs i 1)
  refine lv_aload_n hx hb dL_law_1282 rfl (lv_at hl 1 rfl) ?_
  refine g_sc (k := 1) X w hX hbl hbA (lv_at hl 0 rfl) (lv_at hl 4 rfl) hi (by decide) dL_law_1283 dL_law_1284 dL_law_1286 dL_law_1287 dL_law_1288 ?_
  refine g_cvi (As := [.int (i2 (sc xs i 1))]) (rest := []) X w (k_X10_helper hi0 _ inR_sc w.2.2 e1) lw10_helper cl_10 KD_0 ⟨rfl, rfl⟩ ⟨nle rfl, nle rfl⟩ ⟨by omega, by omega⟩ hl.1 rfl (nle rfl) dL_law_1289 (fun hr H1 locs1 w1 => ?_)
  refine lv_aload_n hx hb dL_law_1292 rfl (lv_at hl 2 rfl) ?_
  refine g_sc (k := 1) X w1 hX hbl hbA (lv_at hl 0 rfl) (lv_at hl 4 rfl) hi (by decide) dL_law_1293 dL_law_1294 dL_law_1296 dL_law_1297 dL_law_1298 ?_
  refine g_cvi (As := [.int (i2 (sc xs i 1))]) (rest := [.int (i2 r)]) X w1 (k_X11_helper hi0 _ inR_sc w1.2.2 e2) lw11_helper cl_11 KD_80 ⟨rfl, rfl⟩ ⟨nle rfl, nle rfl⟩ ⟨by omega, by omega⟩ hl.1 rfl (nle rfl) dL_law_1299 (fun hr2 H2 locs2 w2 => ?_)
  refine g_icmp_eq (tgt := 1585) X hr hr2 dL_law_1302 (by decide) (fun _ => ?_) (fun z => absurd er.symm z)
  exact KK M2 _ _ _ _ _ (by omega) (by omega) I2 w2 hl
set_option maxRecDepth 100000 in
set_option maxHeartbeats 4000000 in
theorem q_help (X : CX p s m args c cL_law 7 RL D aC ad sg A H0) (hX : va_X b L xs s H0) (hbl : b < H0.size) (hbA : ¬ A b) {i : Int} (hi : 0 ≤ i ∧ i + 6 ≤ (L : Int) ∧ L ≤ 3072) (I : Inv M) (hl : lv_has ls 7 (lvL b ad i)) (w : WS D aC ad A H0 M H locs) (hc : cells + 2 ≤ room_1.cells ∧ slots + 9 ≤ room_1.slots) (KK : ∀ (M' : Mem) (H' : Heap) (locs' : List Loc) (ls' : Array Slot) (cells' slots' : Nat), cells' ≤ cells + 2 → slots' ≤ slots + 9 → Inv M' → WS D aC ad A H0 M' H' locs' → lv_has ls' 7 (lvL b ad i) → W p l e room_1 s m args below meth c H' locs' cells' slots' Q (F0 m 1585 ls' [])) : W p l e room_1 s m args below meth c H locs cells slots Q (F0 m 1307 ls []) := by
  have hx := X.1.1
  have hb := X.1.2.1
  have hi0 := X.2.2.1
  obtain ⟨⟨r, M1⟩, e1, ⟨r2, M2⟩, e2, er, I2⟩ := op_help I (sc xs i 1)
  refine lv_aload_n hx hb dL_law_1307 rfl (lv_at hl 1 rfl) ?_
  refine g_sc (k := 1) X w hX hbl hbA (lv_at hl 0 rfl) (lv_at hl 4 rfl) hi (by decide) dL_law_1308 dL_law_1309 dL_law_1311 dL_law_1312 dL_law_1313 ?_
  refine g_cvi (As := [.int (i2 (sc xs i 1))]) (rest := []) X w (k_X10_help hi0 _ inR_sc w.2.2 e1) lw10_help cl_10 KD_0 ⟨rfl, rfl⟩ ⟨nle rfl, nle rfl⟩ ⟨by omega, by omega⟩ hl.1 rfl (nle rfl) dL_law_1314 (fun hr H1 locs1 w1 => ?_)
  refine lv_aload_n hx hb dL_law_1317 rfl (lv_at hl 2 rfl) ?_
  refine g_sc (k := 1) X w1 hX hbl hbA (lv_at hl 0 rfl) (lv_at hl 4 rfl) hi (by decide) dL_law_1318 dL_law_1319 dL_law_1321 dL_law_1322 dL_law_1323 ?_
  refine g_cvi (As := [.int (i2 (sc xs i 1))]) (rest := [.int (i2 r)]) X w1 (k_X11_help hi0 _ inR_sc w1.2.2 e2) lw11_help cl_11 KD_80 ⟨rfl, rfl⟩ ⟨nle rfl, nle rfl⟩ ⟨by omega, by omega⟩ hl.1 rfl (nle rfl) dL_law_1324 (fun hr2 H2 locs2 w2 => ?_)
  refine g_icmp_eq (tgt := 1585) X hr hr2 dL_law_1327 (by decide) (fun _ => ?_) (fun z => absurd er.symm z)
  exact KK M2 _ _ _ _ _ (by omega) (by omega) I2 w2 hl
set_option maxRecDepth 100000 in
set_option maxHeartbeats 4000000 in
theorem q_word (X : CX p s m args c cL_law 7 RL D aC ad sg A H0) (hX : va_X b L xs s H0) (hbl : b < H0.size) (hbA : ¬ A b) {i : Int} (hi : 0 ≤ i ∧ i + 6 ≤ (L : Int) ∧ L ≤ 3072) (I : Inv M) (hl : lv_has ls 7 (lvL b ad i)) (w : WS D aC ad A H0 M H locs) (hc : cells + 2 ≤ room_1.cells ∧ slots + 9 ≤ room_1.slots) (KK : ∀ (M' : Mem) (H' : Heap) (locs' : List Loc) (ls' : Array Slot) (cells' slots' : Nat), cells' ≤ cells + 2 → slots' ≤ slots + 9 → Inv M' → WS D aC ad A H0 M' H' locs' → lv_has ls' 7 (lvL b ad i) → W p l e room_1 s m args below meth c H' locs' cells' slots' Q (F0 m 1585 ls' [])) : W p l e room_1 s m args below meth c H locs cells slots Q (F0 m 1332 ls []) := by
  have hx := X.1.1
  have hb := X.1.2.1
  have hi0 := X.2.2.1
  obtain ⟨⟨r, M1⟩, e1, ⟨r2, M2⟩, e2, er, I2⟩ := op_word I (sc xs i 1) (sc xs i 2) (sc xs i 3)
  refine lv_aload_n hx hb dL_law_1332 rfl (lv_at hl 1 rfl) ?_
  refine g_sc (k := 1) X w hX hbl hbA (lv_at hl 0 rfl) (lv_at hl 4 rfl) hi (by decide) dL_law_1333 dL_law_1334 dL_law_1336 dL_law_1337 dL_law_1338 ?_
  refine g_sc (k := 2) X w hX hbl hbA (lv_at hl 0 rfl) (lv_at hl 4 rfl) hi (by decide) dL_law_1339 dL_law_1340 dL_law_1342 dL_law_1343 dL_law_1344 ?_
  refine g_sc (k := 3) X w hX hbl hbA (lv_at hl 0 rfl) (lv_at hl 4 rfl) hi (by decide) dL_law_1345 dL_law_1346 dL_law_1348 dL_law_1349 dL_law_1350 ?_
  refine g_cvi (As := [.int (i2 (sc xs i 1)), .int (i2 (sc xs i 2)), .int (i2 (sc xs i 3))]) (rest := []) X w (k_X10_word hi0 _ inR_sc _ inR_sc _ inR_sc w.2.2 e1) lw10_word cl_10 KD_0 ⟨rfl, rfl⟩ ⟨nle rfl, nle rfl⟩ ⟨by omega, by omega⟩ hl.1 rfl (nle rfl) dL_law_1351 (fun hr H1 locs1 w1 => ?_)
  refine lv_aload_n hx hb dL_law_1354 rfl (lv_at hl 2 rfl) ?_
  refine g_sc (k := 1) X w1 hX hbl hbA (lv_at hl 0 rfl) (lv_at hl 4 rfl) hi (by decide) dL_law_1355 dL_law_1356 dL_law_1358 dL_law_1359 dL_law_1360 ?_
  refine g_sc (k := 2) X w1 hX hbl hbA (lv_at hl 0 rfl) (lv_at hl 4 rfl) hi (by decide) dL_law_1361 dL_law_1362 dL_law_1364 dL_law_1365 dL_law_1366 ?_
  refine g_sc (k := 3) X w1 hX hbl hbA (lv_at hl 0 rfl) (lv_at hl 4 rfl) hi (by decide) dL_law_1367 dL_law_1368 dL_law_1370 dL_law_1371 dL_law_1372 ?_
  refine g_cvi (As := [.int (i2 (sc xs i 1)), .int (i2 (sc xs i 2)), .int (i2 (sc xs i 3))]) (rest := [.int (i2 r)]) X w1 (k_X11_word hi0 _ inR_sc _ inR_sc _ inR_sc w1.2.2 e2) lw11_word cl_11 KD_80 ⟨rfl, rfl⟩ ⟨nle rfl, nle rfl⟩ ⟨by omega, by omega⟩ hl.1 rfl (nle rfl) dL_law_1373 (fun hr2 H2 locs2 w2 => ?_)
  refine g_icmp_eq (tgt := 1585) X hr hr2 dL_law_1376 (by decide) (fun _ => ?_) (fun z => absurd er.symm z)
  exact KK M2 _ _ _ _ _ (by omega) (by omega) I2 w2 hl
set_option maxRecDepth 100000 in
set_option maxHeartbeats 4000000 in
theorem q_close (X : CX p s m args c cL_law 7 RL D aC ad sg A H0) (hX : va_X b L xs s H0) (hbl : b < H0.size) (hbA : ¬ A b) {i : Int} (hi : 0 ≤ i ∧ i + 6 ≤ (L : Int) ∧ L ≤ 3072) (I : Inv M) (hl : lv_has ls 7 (lvL b ad i)) (w : WS D aC ad A H0 M H locs) (hc : cells + 2 ≤ room_1.cells ∧ slots + 9 ≤ room_1.slots) (KK : ∀ (M' : Mem) (H' : Heap) (locs' : List Loc) (ls' : Array Slot) (cells' slots' : Nat), cells' ≤ cells + 2 → slots' ≤ slots + 9 → Inv M' → WS D aC ad A H0 M' H' locs' → lv_has ls' 7 (lvL b ad i) → W p l e room_1 s m args below meth c H' locs' cells' slots' Q (F0 m 1585 ls' [])) : W p l e room_1 s m args below meth c H locs cells slots Q (F0 m 1381 ls []) := by
  have hx := X.1.1
  have hb := X.1.2.1
  have hi0 := X.2.2.1
  obtain ⟨⟨r, M1⟩, e1, ⟨r2, M2⟩, e2, er, I2⟩ := op_close I
  refine lv_aload_n hx hb dL_law_1381 rfl (lv_at hl 1 rfl) ?_
  refine g_cvi (As := []) (rest := []) X w (k_X10_close hi0  w.2.2 e1) lw10_close cl_10 KD_0 ⟨rfl, rfl⟩ ⟨nle rfl, nle rfl⟩ ⟨by omega, by omega⟩ hl.1 rfl (nle rfl) dL_law_1382 (fun hr H1 locs1 w1 => ?_)
  refine lv_aload_n hx hb dL_law_1385 rfl (lv_at hl 2 rfl) ?_
  refine g_cvi (As := []) (rest := [.int (i2 r)]) X w1 (k_X11_close hi0  w1.2.2 e2) lw11_close cl_11 KD_80 ⟨rfl, rfl⟩ ⟨nle rfl, nle rfl⟩ ⟨by omega, by omega⟩ hl.1 rfl (nle rfl) dL_law_1386 (fun hr2 H2 locs2 w2 => ?_)
  refine g_icmp_eq (tgt := 1585) X hr hr2 dL_law_1389 (by decide) (fun _ => ?_) (fun z => absurd er.symm z)
  exact KK M2 _ _ _ _ _ (by omega) (by omega) I2 w2 hl
set_option maxRecDepth 100000 in
set_option maxHeartbeats 4000000 in
theorem q_regret (X : CX p s m args c cL_law 7 RL D aC ad sg A H0) (hX : va_X b L xs s H0) (hbl : b < H0.size) (hbA : ¬ A b) {i : Int} (hi : 0 ≤ i ∧ i + 6 ≤ (L : Int) ∧ L ≤ 3072) (I : Inv M) (hl : lv_has ls 7 (lvL b ad i)) (w : WS D aC ad A H0 M H locs) (hc : cells + 2 ≤ room_1.cells ∧ slots + 9 ≤ room_1.slots) (KK : ∀ (M' : Mem) (H' : Heap) (locs' : List Loc) (ls' : Array Slot) (cells' slots' : Nat), cells' ≤ cells + 2 → slots' ≤ slots + 9 → Inv M' → WS D aC ad A H0 M' H' locs' → lv_has ls' 7 (lvL b ad i) → W p l e room_1 s m args below meth c H' locs' cells' slots' Q (F0 m 1585 ls' [])) : W p l e room_1 s m args below meth c H locs cells slots Q (F0 m 1394 ls []) := by
  have hx := X.1.1
  have hb := X.1.2.1
  have hi0 := X.2.2.1
  obtain ⟨⟨r, M1⟩, e1, ⟨r2, M2⟩, e2, er, I2⟩ := op_regret I (sc xs i 1) (sc xs i 2)
  obtain ⟨e1, eM⟩ := pr_of e1
  subst eM
  refine lv_aload_n hx hb dL_law_1394 rfl (lv_at hl 1 rfl) ?_
  refine g_sc (k := 1) X w hX hbl hbA (lv_at hl 0 rfl) (lv_at hl 4 rfl) hi (by decide) dL_law_1395 dL_law_1396 dL_law_1398 dL_law_1399 dL_law_1400 ?_
  refine g_sc (k := 2) X w hX hbl hbA (lv_at hl 0 rfl) (lv_at hl 4 rfl) hi (by decide) dL_law_1401 dL_law_1402 dL_law_1404 dL_law_1405 dL_law_1406 ?_
  refine g_cvi (As := [.int (i2 (sc xs i 1)), .int (i2 (sc xs i 2))]) (rest := []) X w (k_X10_regret hi0 _ inR_sc _ inR_sc w.2.2 e1) lw10_regret cl_10 KD_0 ⟨rfl, rfl⟩ ⟨nle rfl, nle rfl⟩ ⟨by omega, by omega⟩ hl.1 rfl (nle rfl) dL_law_1407 (fun hr H1 locs1 w1 => ?_)
  refine lv_aload_n hx hb dL_law_1410 rfl (lv_at hl 2 rfl) ?_
  refine g_sc (k := 1) X w1 hX hbl hbA (lv_at hl 0 rfl) (lv_at hl 4 rfl) hi (by decide) dL_law_1411 dL_law_1412 dL_law_1414 dL_law_1415 dL_law_1416 ?_
  refine g_sc (k := 2) X w1 hX hbl hbA (lv_at hl 0 rfl) (lv_at hl 4 rfl) hi (by decide) dL_law_1417 dL_law_1418 dL_law_1420 dL_law_1421 dL_law_1422 ?_
  refine g_cvi (As := [.int (i2 (sc xs i 1)), .int (i2 (sc xs i 2))]) (rest := [.int (i2 r)]) X w1 (k_X11_regret hi0 _ inR_sc _ inR_sc w1.2.2 e2) lw11_regret cl_11 KD_80 ⟨rfl, rfl⟩ ⟨nle rfl, nle rfl⟩ ⟨by omega, by omega⟩ hl.1 rfl (nle rfl) dL_law_1423 (fun hr2 H2 locs2 w2 => ?_)
  refine g_icmp_eq (tgt := 1585) X hr hr2 dL_law_1426 (by decide) (fun _ => ?_) (fun z => absurd er.symm z)
  exact KK M2 _ _ _ _ _ (by omega) (by omega) I2 w2 hl
set_option maxRecDepth 100000 in
set_option maxHeartbeats 4000000 in
theorem q_scaled (X : CX p s m args c cL_law 7 RL D aC ad sg A H0) (hX : va_X b L xs s H0) (hbl : b < H0.size) (hbA : ¬ A b) {i : Int} (hi : 0 ≤ i ∧ i + 6 ≤ (L : Int) ∧ L ≤ 3072) (I : Inv M) (hl : lv_has ls 7 (lvL b ad i)) (w : WS D aC ad A H0 M H locs) (hc : cells + 2 ≤ room_1.cells ∧ slots + 9 ≤ room_1.slots) (KK : ∀ (M' : Mem) (H' : Heap) (locs' : List Loc) (ls' : Array Slot) (cells' slots' : Nat), cells' ≤ cells + 2 → slots' ≤ slots + 9 → Inv M' → WS D aC ad A H0 M' H' locs' → lv_has ls' 7 (lvL b ad i) → W p l e room_1 s m args below meth c H' locs' cells' slots' Q (F0 m 1585 ls' [])) : W p l e room_1 s m args below meth c H locs cells slots Q (F0 m 1431 ls []) := by
  have hx := X.1.1
  have hb := X.1.2.1
  have hi0 := X.2.2.1
  obtain ⟨⟨r, M1⟩, e1, ⟨r2, M2⟩, e2, er, I2⟩ := op_scaled I (sc xs i 1) (sc xs i 2) (sc xs i 3) (sc xs i 4)
  refine lv_aload_n hx hb dL_law_1431 rfl (lv_at hl 1 rfl) ?_
  refine g_sc (k := 1) X w hX hbl hbA (lv_at hl 0 rfl) (lv_at hl 4 rfl) hi (by decide) dL_law_1432 dL_law_1433 dL_law_1435 dL_law_1436 dL_law_1437 ?_
  refine g_sc (k := 2) X w hX hbl hbA (lv_at hl 0 rfl) (lv_at hl 4 rfl) hi (by decide) dL_law_1438 dL_law_1439 dL_law_1441 dL_law_1442 dL_law_1443 ?_
  refine g_sc (k := 3) X w hX hbl hbA (lv_at hl 0 rfl) (lv_at hl 4 rfl) hi (by decide) dL_law_1444 dL_law_1445 dL_law_1447 dL_law_1448 dL_law_1449 ?_
  refine g_sc (k := 4) X w hX hbl hbA (lv_at hl 0 rfl) (lv_at hl 4 rfl) hi (by decide) dL_law_1450 dL_law_1451 dL_law_1453 dL_law_1454 dL_law_1455 ?_
  refine g_cvi (As := [.int (i2 (sc xs i 1)), .int (i2 (sc xs i 2)), .int (i2 (sc xs i 3)), .int (i2 (sc xs i 4))]) (rest := []) X w (k_X10_scaled hi0 _ inR_sc _ inR_sc _ inR_sc _ inR_sc w.2.2 e1) lw10_scaled cl_10 KD_0 ⟨rfl, rfl⟩ ⟨nle rfl, nle rfl⟩ ⟨by omega, by omega⟩ hl.1 rfl (nle rfl) dL_law_1456 (fun hr H1 locs1 w1 => ?_)
  refine lv_aload_n hx hb dL_law_1459 rfl (lv_at hl 2 rfl) ?_
  refine g_sc (k := 1) X w1 hX hbl hbA (lv_at hl 0 rfl) (lv_at hl 4 rfl) hi (by decide) dL_law_1460 dL_law_1461 dL_law_1463 dL_law_1464 dL_law_1465 ?_
  refine g_sc (k := 2) X w1 hX hbl hbA (lv_at hl 0 rfl) (lv_at hl 4 rfl) hi (by decide) dL_law_1466 dL_law_1467 dL_law_1469 dL_law_1470 dL_law_1471 ?_
  refine g_sc (k := 3) X w1 hX hbl hbA (lv_at hl 0 rfl) (lv_at hl 4 rfl) hi (by decide) dL_law_1472 dL_law_1473 dL_law_1475 dL_law_1476 dL_law_1477 ?_
  refine g_sc (k := 4) X w1 hX hbl hbA (lv_at hl 0 rfl) (lv_at hl 4 rfl) hi (by decide) dL_law_1478 dL_law_1479 dL_law_1481 dL_law_1482 dL_law_1483 ?_
  refine g_cvi (As := [.int (i2 (sc xs i 1)), .int (i2 (sc xs i 2)), .int (i2 (sc xs i 3)), .int (i2 (sc xs i 4))]) (rest := [.int (i2 r)]) X w1 (k_X11_scaled hi0 _ inR_sc _ inR_sc _ inR_sc _ inR_sc w1.2.2 e2) lw11_scaled cl_11 KD_80 ⟨rfl, rfl⟩ ⟨nle rfl, nle rfl⟩ ⟨by omega, by omega⟩ hl.1 rfl (nle rfl) dL_law_1484 (fun hr2 H2 locs2 w2 => ?_)
  refine g_icmp_eq (tgt := 1585) X hr hr2 dL_law_1487 (by decide) (fun _ => ?_) (fun z => absurd er.symm z)
  exact KK M2 _ _ _ _ _ (by omega) (by omega) I2 w2 hl
set_option maxRecDepth 100000 in
set_option maxHeartbeats 4000000 in
theorem q_count (X : CX p s m args c cL_law 7 RL D aC ad sg A H0) (hX : va_X b L xs s H0) (hbl : b < H0.size) (hbA : ¬ A b) {i : Int} (hi : 0 ≤ i ∧ i + 6 ≤ (L : Int) ∧ L ≤ 3072) (I : Inv M) (hl : lv_has ls 7 (lvL b ad i)) (w : WS D aC ad A H0 M H locs) (hc : cells + 2 ≤ room_1.cells ∧ slots + 9 ≤ room_1.slots) (KK : ∀ (M' : Mem) (H' : Heap) (locs' : List Loc) (ls' : Array Slot) (cells' slots' : Nat), cells' ≤ cells + 2 → slots' ≤ slots + 9 → Inv M' → WS D aC ad A H0 M' H' locs' → lv_has ls' 7 (lvL b ad i) → W p l e room_1 s m args below meth c H' locs' cells' slots' Q (F0 m 1585 ls' [])) : W p l e room_1 s m args below meth c H locs cells slots Q (F0 m 1560 ls []) := by
  have hx := X.1.1
  have hb := X.1.2.1
  have hi0 := X.2.2.1
  obtain ⟨⟨r, M1⟩, e1, ⟨r2, M2⟩, e2, er, I2⟩ := op_count I (sc xs i 1)
  refine lv_aload_n hx hb dL_law_1560 rfl (lv_at hl 1 rfl) ?_
  refine g_sc (k := 1) X w hX hbl hbA (lv_at hl 0 rfl) (lv_at hl 4 rfl) hi (by decide) dL_law_1561 dL_law_1562 dL_law_1564 dL_law_1565 dL_law_1566 ?_
  refine g_cvi (As := [.int (i2 (sc xs i 1))]) (rest := []) X w (k_X10_count hi0 _ inR_sc w.2.2 e1) lw10_count cl_10 KD_0 ⟨rfl, rfl⟩ ⟨nle rfl, nle rfl⟩ ⟨by omega, by omega⟩ hl.1 rfl (nle rfl) dL_law_1567 (fun hr H1 locs1 w1 => ?_)
  refine lv_aload_n hx hb dL_law_1570 rfl (lv_at hl 2 rfl) ?_
  refine g_sc (k := 1) X w1 hX hbl hbA (lv_at hl 0 rfl) (lv_at hl 4 rfl) hi (by decide) dL_law_1571 dL_law_1572 dL_law_1574 dL_law_1575 dL_law_1576 ?_
  refine g_cvi (As := [.int (i2 (sc xs i 1))]) (rest := [.int (i2 r)]) X w1 (k_X11_count hi0 _ inR_sc w1.2.2 e2) lw11_count cl_11 KD_80 ⟨rfl, rfl⟩ ⟨nle rfl, nle rfl⟩ ⟨by omega, by omega⟩ hl.1 rfl (nle rfl) dL_law_1577 (fun hr2 H2 locs2 w2 => ?_)
  refine g_icmp_eq (tgt := 1585) X hr hr2 dL_law_1580 (by decide) (fun _ => ?_) (fun z => absurd er.symm z)
  exact KK M2 _ _ _ _ _ (by omega) (by omega) I2 w2 hl
end LAWC
