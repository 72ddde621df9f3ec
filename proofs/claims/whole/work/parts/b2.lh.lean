/-! the law's helpers: the answer goes to the long array, or 1 is answered -/
theorem thX_law : Cond.classLink RL 13 thE ∈ BW := by
  have h : (decide (Cond.classLink RL 13 thE ∈ lw_tbl) && goodWord (Cond.classLink RL 13 thE)) = true := by decide +kernel
  simp only [Bool.and_eq_true, decide_eq_true_eq] at h
  exact BW_in h.1 h.2
theorem lkL_of : LkV RL 15 yX10_of cX10_of 3 (some .int) 2 := ⟨⟨(BW_in (List.mem_of_getElem? (i := 1368) (by decide +kernel)) rfl), (BW_in (List.mem_of_getElem? (i := 1365) (by decide +kernel)) rfl), (BW_in (List.mem_of_getElem? (i := 98) (by decide +kernel)) rfl), ⟨by decide +kernel, by decide +kernel, by decide +kernel⟩⟩, (BW_in (List.mem_of_getElem? (i := 1366) (by decide +kernel)) rfl), (BW_in (List.mem_of_getElem? (i := 1367) (by decide +kernel)) rfl)⟩
def rm_L_of : Room := { frames := rm_X10_of.frames + 1, cells := 1, slots := 6, locals := rm_X10_of.locals + 60 }
def lhM (r : Int) (M : Mem) : Mem := if r = 2147483648 then M else mup M 120 0 r
def lhR (r : Int) : Int := if r = 2147483648 then 1 else 0
set_option maxRecDepth 100000 in
set_option maxHeartbeats 1000000 in
theorem k_L_of {l : Launch} {D : va_G} {aC : Nat → ClassId} {ad : Nat → Nat} {sg : SG} (hl0 : l.stackTraces = false) (hi : Inj ad) (p1 : Int) (hp1 : inR p1) (p2 : Int) (hp2 : inR p2) {M : Mem} (hM : inM M) {r : Int} {M1 : Mem} (hf : f_X10_of p1 p2 M = some (r, M1)) (sz : Nat) :
    vx_Met l yL_of (.codeWith yL_of cL_of 5 (some .int) [(0, 10, 13, 13)] :: BW) rm_L_of (va_Pc [.ref (ad 0), .int (i2 p1), .int (i2 p2), .ref (ad 120)] (EntX D aC ad sg M sz)) (va_Qi (fun q (_ : Unit) => q = i2 (lhR r) ∧ inM (lhM r M1)) (fun _ t => va_P D vwCl (wl aC ad (lhM r M1)) t.heap) (AA ad sz)) (fun _ _ _ => False) 1 6 (AA ad sz) := by
  refine vx_ofWH (by decide +kernel) rfl ?_
  intro p e s m args below meth c s₁ B hml hv
  obtain ⟨rfl, ⟨hsz, hPw, hK, hSt⟩, hZ, hN⟩ := hv
  subst hsz
  have hts := atoms_spec (ws := .codeWith yL_of cL_of 5 (some .int) [(0, 10, 13, 13)] :: BW) B.pre
  have htab := vx_table (x := yL_of) B (hts _ List.mem_cons_self)
  have hown : s.vm.findClass yL_of.cls = some m.cls := findClass_of_methodNamed B.named
  have hlocks := B.notSynchronized
  have hl := lv_entry [.ref (ad 0), .int (i2 p1), .int (i2 p2), .ref (ad 120)] (n := 5) (nle rfl)
  rw [lg_entry_eq]
  generalize (lg_sl [.ref (ad 0), .int (i2 p1), .int (i2 p2), .ref (ad 120)] ++ List.replicate (5 - (lg_sl [.ref (ad 0), .int (i2 p1), .int (i2 p2), .ref (ad 120)]).length) Slot.unset).toArray = ls at hl ⊢
  replace hl : lv_has ls 5 [(0, .ref (ad 0)), (1, .int (i2 p1)), (2, .int (i2 p2)), (3, .ref (ad 120))] := hl
  have w : WS D aC ad (AA ad s.heap.size) s.heap M s.heap [] := ⟨hPw, va_S.rf, hM⟩
  have X : CX p s m _ c cL_of 5 RL D aC ad sg (AA ad s.heap.size) s.heap := ⟨⟨B.exec, B.bytes, hml, hown, fun w hw => hts w (List.mem_cons_of_mem _ hw)⟩, hK, hi, fun k hk => Or.inl ⟨k, hk, rfl⟩, fun q h => Or.inr h, rfl, hSt⟩
  have hx := X.1.1
  have hb := X.1.2.1
  refine lv_aload_n hx hb dL_of_0 rfl (lv_at hl 3 rfl) ?_
  refine g_iconst X dL_of_1 ?_
  refine lv_aload_n hx hb dL_of_2 rfl (lv_at hl 0 rfl) ?_
  refine lv_iload_n hx hb dL_of_3 rfl (lv_at hl 1 rfl) ?_
  refine lv_iload_n hx hb dL_of_4 rfl (lv_at hl 2 rfl) ?_
  refine g_cvx (As := [.int (i2 p1), .int (i2 p2)]) (rest := [.int (i2 0), .ref (ad 120)]) X hZ hN w (k_X10_of hl0 hi p1 hp1 p2 hp2 hM hf) lkL_of cl_10 KD_0 ⟨rfl, rfl⟩ ⟨nle rfl, nle rfl⟩ ⟨nle rfl, nle rfl⟩ hl.1 rfl (nle rfl) dL_of_5 (fun hr ce q9 H1 locs1 w1 hce hcv hcl => ?_) (fun hr H1 locs1 w1 => ?_)
  · refine vx_catch (own := RL) (name := thE) (E := thE) (ce := ce) hown [] _ [] (htab.trans rfl) (fun z hz => nomatch hz) (by decide +kernel) (by decide) (hts _ (List.mem_cons_of_mem _ thX_law)) (va_Nw.use rfl hN.1) hce hcv hcl ?_
    refine lv_astore (lv' := [(4, .ref q9), (0, .ref (ad 0)), (1, .int (i2 p1)), (2, .int (i2 p2)), (3, .ref (ad 120))]) hx hb dL_of_13 hl (by decide) rfl (fun ls hl => ?_)
    refine g_iconst X dL_of_15 ?_
    refine vx_ret ?_
    have e1 : lhM r M1 = M1 := if_pos hr
    have e2 : lhR r = 1 := if_pos hr
    exact W.zret (v := i2 1) B.exec B.bytes B.returns rfl (fun t ht hW => ⟨⟨i2 1, (), rfl, ⟨by rw [e2], by rw [e1]; exact w1.2.2⟩, by show va_P _ _ _ t.heap; rw [ht, e1]; exact w1.1⟩, w1.2.1.F ht⟩) w1.2.1.2.2 dL_of_16
  · refine g_i2l X hr dL_of_8 ?_
    refine g_last (a := 120) (n := 1) (i := 0) X w1 KD_120 ⟨by decide, by decide⟩ (by decide) hr dL_of_9 (fun H2 locs2 w2 => ?_)
    refine lv_goto (tgt := 17) hx hb dL_of_10 (by decide) ?_
    refine g_iconst X dL_of_17 ?_
    refine vx_ret ?_
    have hne : ¬ r = 2147483648 := fun z => thE_no (by show inR 2147483648; rw [← z]; exact hr)
    have e1 : lhM r M1 = mup M1 120 0 r := if_neg hne
    have e2 : lhR r = 0 := if_neg hne
    exact W.zret (v := i2 0) B.exec B.bytes B.returns rfl (fun t ht hW => ⟨⟨i2 0, (), rfl, ⟨by rw [e2], by rw [e1]; exact w2.2.2⟩, by show va_P _ _ _ t.heap; rw [ht, e1]; exact w2.1⟩, w2.2.1.F ht⟩) w2.2.1.2.2 dL_of_18
theorem lkL_lie : LkV RL 7 yX10_lie cX10_lie 8 (some .int) 2 := ⟨⟨(BW_in (List.mem_of_getElem? (i := 1289) (by decide +kernel)) rfl), (BW_in (List.mem_of_getElem? (i := 1286) (by decide +kernel)) rfl), (BW_in (List.mem_of_getElem? (i := 98) (by decide +kernel)) rfl), ⟨by decide +kernel, by decide +kernel, by decide +kernel⟩⟩, (BW_in (List.mem_of_getElem? (i := 1287) (by decide +kernel)) rfl), (BW_in (List.mem_of_getElem? (i := 1288) (by decide +kernel)) rfl)⟩
def rm_L_lie : Room := { frames := rm_X10_lie.frames + 1, cells := 1, slots := 6, locals := rm_X10_lie.locals + 60 }
set_option maxRecDepth 100000 in
set_option maxHeartbeats 1000000 in
theorem k_L_lie {l : Launch} {D : va_G} {aC : Nat → ClassId} {ad : Nat → Nat} {sg : SG} (hl0 : l.stackTraces = false) (hi : Inj ad) (p1 : Int) (hp1 : inR p1) (p2 : Int) (hp2 : inR p2) {M : Mem} (hM : inM M) {r : Int} {M1 : Mem} (hf : f_X10_lie p1 p2 M = some (r, M1)) (sz : Nat) :
    vx_Met l yL_lie (.codeWith yL_lie cL_lie 5 (some .int) [(0, 10, 13, 13)] :: BW) rm_L_lie (va_Pc [.ref (ad 0), .int (i2 p1), .int (i2 p2), .ref (ad 120)] (EntX D aC ad sg M sz)) (va_Qi (fun q (_ : Unit) => q = i2 (lhR r) ∧ inM (lhM r M1)) (fun _ t => va_P D vwCl (wl aC ad (lhM r M1)) t.heap) (AA ad sz)) (fun _ _ _ => False) 1 6 (AA ad sz) := by
  refine vx_ofWH (by decide +kernel) rfl ?_
  intro p e s m args below meth c s₁ B hml hv
  obtain ⟨rfl, ⟨hsz, hPw, hK, hSt⟩, hZ, hN⟩ := hv
  subst hsz
  have hts := atoms_spec (ws := .codeWith yL_lie cL_lie 5 (some .int) [(0, 10, 13, 13)] :: BW) B.pre
  have htab := vx_table (x := yL_lie) B (hts _ List.mem_cons_self)
  have hown : s.vm.findClass yL_lie.cls = some m.cls := findClass_of_methodNamed B.named
  have hlocks := B.notSynchronized
  have hl := lv_entry [.ref (ad 0), .int (i2 p1), .int (i2 p2), .ref (ad 120)] (n := 5) (nle rfl)
  rw [lg_entry_eq]
  generalize (lg_sl [.ref (ad 0), .int (i2 p1), .int (i2 p2), .ref (ad 120)] ++ List.replicate (5 - (lg_sl [.ref (ad 0), .int (i2 p1), .int (i2 p2), .ref (ad 120)]).length) Slot.unset).toArray = ls at hl ⊢
  replace hl : lv_has ls 5 [(0, .ref (ad 0)), (1, .int (i2 p1)), (2, .int (i2 p2)), (3, .ref (ad 120))] := hl
  have w : WS D aC ad (AA ad s.heap.size) s.heap M s.heap [] := ⟨hPw, va_S.rf, hM⟩
  have X : CX p s m _ c cL_lie 5 RL D aC ad sg (AA ad s.heap.size) s.heap := ⟨⟨B.exec, B.bytes, hml, hown, fun w hw => hts w (List.mem_cons_of_mem _ hw)⟩, hK, hi, fun k hk => Or.inl ⟨k, hk, rfl⟩, fun q h => Or.inr h, rfl, hSt⟩
  have hx := X.1.1
  have hb := X.1.2.1
  refine lv_aload_n hx hb dL_lie_0 rfl (lv_at hl 3 rfl) ?_
  refine g_iconst X dL_lie_1 ?_
  refine lv_aload_n hx hb dL_lie_2 rfl (lv_at hl 0 rfl) ?_
  refine lv_iload_n hx hb dL_lie_3 rfl (lv_at hl 1 rfl) ?_
  refine lv_iload_n hx hb dL_lie_4 rfl (lv_at hl 2 rfl) ?_
  refine g_cvx (As := [.int (i2 p1), .int (i2 p2)]) (rest := [.int (i2 0), .ref (ad 120)]) X hZ hN w (k_X10_lie hl0 hi p1 hp1 p2 hp2 hM hf) lkL_lie cl_10 KD_0 ⟨rfl, rfl⟩ ⟨nle rfl, nle rfl⟩ ⟨nle rfl, nle rfl⟩ hl.1 rfl (nle rfl) dL_lie_5 (fun hr ce q9 H1 locs1 w1 hce hcv hcl => ?_) (fun hr H1 locs1 w1 => ?_)
  · refine vx_catch (own := RL) (name := thE) (E := thE) (ce := ce) hown [] _ [] (htab.trans rfl) (fun z hz => nomatch hz) (by decide +kernel) (by decide) (hts _ (List.mem_cons_of_mem _ thX_law)) (va_Nw.use rfl hN.1) hce hcv hcl ?_
    refine lv_astore (lv' := [(4, .ref q9), (0, .ref (ad 0)), (1, .int (i2 p1)), (2, .int (i2 p2)), (3, .ref (ad 120))]) hx hb dL_lie_13 hl (by decide) rfl (fun ls hl => ?_)
    refine g_iconst X dL_lie_15 ?_
    refine vx_ret ?_
    have e1 : lhM r M1 = M1 := if_pos hr
    have e2 : lhR r = 1 := if_pos hr
    exact W.zret (v := i2 1) B.exec B.bytes B.returns rfl (fun t ht hW => ⟨⟨i2 1, (), rfl, ⟨by rw [e2], by rw [e1]; exact w1.2.2⟩, by show va_P _ _ _ t.heap; rw [ht, e1]; exact w1.1⟩, w1.2.1.F ht⟩) w1.2.1.2.2 dL_lie_16
  · refine g_i2l X hr dL_lie_8 ?_
    refine g_last (a := 120) (n := 1) (i := 0) X w1 KD_120 ⟨by decide, by decide⟩ (by decide) hr dL_lie_9 (fun H2 locs2 w2 => ?_)
    refine lv_goto (tgt := 17) hx hb dL_lie_10 (by decide) ?_
    refine g_iconst X dL_lie_17 ?_
    refine vx_ret ?_
    have hne : ¬ r = 2147483648 := fun z => thE_no (by show inR 2147483648; rw [← z]; exact hr)
    have e1 : lhM r M1 = mup M1 120 0 r := if_neg hne
    have e2 : lhR r = 0 := if_neg hne
    exact W.zret (v := i2 0) B.exec B.bytes B.returns rfl (fun t ht hW => ⟨⟨i2 0, (), rfl, ⟨by rw [e2], by rw [e1]; exact w2.2.2⟩, by show va_P _ _ _ t.heap; rw [ht, e1]; exact w2.1⟩, w2.2.1.F ht⟩) w2.2.1.2.2 dL_lie_18
