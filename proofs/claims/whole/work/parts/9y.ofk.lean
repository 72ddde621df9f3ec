/-! the row: throw new NoSuchElementException("text"), the text by a wide index -/
section NSR
variable {p : Program} {l : Launch} {e : Env} {R : Room} {s : State} {m : MethodId} {args : Array Value} {below : List Frame} {meth : Method} {c : Code} {H : Heap} {locs : List Loc} {cells slots : Nat} {Q : State → Prop}
variable {mc ms : Nat} {free : Addr → Prop} {ls : Array Slot} {rest : List Value} {Qc : Array Value → State → Outcome → State → Prop} {XC : String → State → State → Prop}
def nsAx (own : String) (ic : Nat) : List Cond := (nsAt own ic).filter vx_no
theorem ns_throw {cc : ByteArray} {pc : Nat} (hexec : p.tables.exec = Jvm.exec) (hb : c.code = cc) (hl : l.stackTraces = false) {own text : String} {ik is ic mc ms sa : Nat} {A : Nat → Prop}
    (hown : s.vm.findClass own = some m.cls)
    (hk : (Cond.classLink own ik thE).before args s = true) (hini : (Cond.initialized thE).before args s = true) (hstr : vk_R own is text sa s) (hat : ∀ w ∈ nsAx own ic, w.before args s = true)
    (hgood : ∀ w ∈ Cond.classLink own ik thE :: Cond.initialized thE :: nsAx own ic, vx_ot w = true)
    (hU : vx_Zq Bundle.tN "UNASSIGNED_STACK" Bundle.steD A s s.heap) (hN : vx_Zq Bundle.tN "SUPPRESSED_SENTINEL" Bundle.listD A s s.heap) (hS : va_S A s.heap H locs) (hsize : ls.size = c.maxLocals)
    (d0 : decode cc pc = .ok (.new ik, 3)) (d3 : decode cc (pc + 3) = .ok (.dup, 1)) (d4 : decode cc (pc + 4) = .ok (.ldc_w is, 3)) (d7 : decode cc (pc + 7) = .ok (.invokespecial ic, 3)) (d10 : decode cc (pc + 10) = .ok (.athrow, 1))
    (hout : ∀ x ∈ c.exceptionTable.toList, covers x (pc + 10) = false)
    (hRframes : 5 < R.frames) (hRlocals : (rest.map fun v => v.category).sum + 82 ≤ R.locals) (hRcells : cells + 1 ≤ R.cells) (hRslots : slots + 6 ≤ R.slots) (hlocks : meth.locks = false)
    (hx : ∀ t : State, s.vm.Alike t.vm → H.size ≤ t.heap.size → (∀ q : Nat, q < H.size → t.heap[q]? = H[q]?) → XC thE s t)
    (hf : ∀ z ∈ locs, free z.base) (hc : cells + 1 ≤ mc) (hs : slots + 6 ≤ ms) :
    W p l e R s m args below meth c H locs cells slots (vx_MQ below Qc XC args s mc ms free) (F0 m pc ls rest) := by
  intro T hT X
  have htr : e.platform.stackTraces = false := (show e.platform.stackTraces = l.stackTraces by rw [X.admits.platform]).trans hl
  have Y := vx_rebase X (R' := { frames := R.frames, locals := R.locals, cells := 1, slots := 6 }) (Nat.le_refl _) (Nat.le_refl _) hRcells hRslots
  obtain ⟨s', hA⟩ : ∃ z, z = (T.setVm s.vm).setFrames (.invoking m args :: below) := ⟨_, rfl⟩
  rw [← hA] at Y
  have hvm : s'.vm = s.vm := by rw [hA]; rfl
  have hhp : s'.heap = H := by rw [hA]; exact hT
  have hW0 : s.WarmedH s'.vm := by rw [hvm]; exact State.WarmedH.refl s
  have hat' : ∀ w ∈ nsAx own ic, w.before args s' = true := fun w hw => vx_ot_at hW0 hvm.symm (hgood w (List.mem_cons_of_mem _ (List.mem_cons_of_mem _ hw))) (hat w hw)
  have hk' : (Cond.classLink own ik thE).before args s' = true := vx_ot_at hW0 hvm.symm (hgood _ List.mem_cons_self) hk
  have hini' : (Cond.initialized thE).before args s' = true := vx_ot_at hW0 hvm.symm (hgood _ (List.mem_cons_of_mem _ List.mem_cons_self)) hini
  have hU' : vx_Zq Bundle.tN "UNASSIGNED_STACK" Bundle.steD A s' s'.heap := by rw [hhp]; exact vx_Zq.moved hW0.alike (hU.kept hS.2.1)
  have hN' : vx_Zq Bundle.tN "SUPPRESSED_SENTINEL" Bundle.listD A s' s'.heap := by rw [hhp]; exact vx_Zq.moved hW0.alike (hN.kept hS.2.1)
  have h : ∀ w ∈ nsAt own ic, w.before args s' = true := vx_own hat' (vx_isRefq hU'.1) (vx_isRefq hN'.1) hU'.2.word hN'.2.word
  have hown' : s'.vm.findClass own = some m.cls := by rw [hvm]; exact hown
  have hins : (Cond.instantiable thE 6).before args s' = true := h _ (by simp [nsAt])
  obtain ⟨vm₁, cX, kX, hfX, hkX, -, -, X₁, st1⟩ := Y.newCold hexec (own := own) (C := thE) (index := ik) (n := 6) hown' hk' hins hini'
    (g := F0 m pc ls rest) rfl (by rw [hb]; exact d0) (Nat.le_refl _) (Nat.le_refl _)
  generalize hT1 : (T.setVm vm₁).pushCell { cls := cX, slots := kX.instanceTypes.map defaultValue, vm := .none } = T1 at X₁ st1
  have hcat : (Value.ref T.heap.size).category = 1 := rfl
  have hcellA : T1.heap[T.heap.size]? = some (freshCell cX kX) := by rw [← hT1]; exact State.heap_pushCell_size _ _
  have d3' : decode c.code (pc + 3) = .ok (.dup, 1) := by rw [hb]; exact d3
  have d4' : decode c.code (pc + 4) = .ok (.ldc_w is, 3) := by rw [hb]; exact d4
  have hstr' : vk_R own is text sa s' := vk_R.warm hW0 hstr
  obtain ⟨U, hsteps, hrun, hend, hW, hsame, ce, hce, hcv, hcl0⟩ := ns_ctor X₁ hexec htr (own := own) (ic := ic) hown' h (fun x hx => nomatch hx) hfX hkX hcellA (by rw [hhp, hT]; exact Nat.le_refl _) (msg := .ref sa) rfl
    (g := { method := m, pc := pc + 7, locals := ls, stack := .ref sa :: .ref T.heap.size :: .ref T.heap.size :: rest, locked := none }) rfl hsize rfl rfl (rest := rest) rfl
    (by rw [hb]; exact d7) (by rw [hb]; exact d10) hout hRframes (by show 2 * 0 + ((Value.ref T.heap.size :: rest).map fun v => v.category).sum + 81 ≤ R.locals; simp only [List.map_cons, List.sum_cons, hcat]; omega) hlocks
  obtain ⟨f1, f2⟩ := vx_frame hsame
  rw [hhp] at f1 f2
  have hWs : s.WarmedH U.vm := State.WarmedH.trans hW0 hW
  have hcl : s.vm.findClass thE = some ce.cls := by
    have h9 := hcl0
    rw [hvm] at h9
    exact h9
  have hall : s.sameButNew ({ U with vm := s.vm } : State) locs mc ms := by
    subst hA
    obtain ⟨e1, e2⟩ := hsame
    rw [State.setFrames_setFrames] at e1
    have h2 : (T.setVm s.vm).sameButNew ({ U with vm := s.vm } : State) [] (0 + 1) (0 + 6) := ⟨e1, e2⟩
    have h3 := X.same.trans h2
    rw [List.append_nil] at h3
    exact h3.mono hc hs
  refine ⟨U, ?_, .threw T.heap.size, hrun, hend, Or.inr ⟨T.heap.size, rfl, thE, ce, locs, hx U hWs.alike f1 (fun q hq => f2 q hq (fun z hz => nomatch hz)), hce, hcv, hcl, hWs, hall, hf⟩⟩
  refine st1 _ ?_
  show Steps p.tables e below (T1.setTop { method := m, pc := pc + 3, locals := ls, stack := .ref T.heap.size :: rest, locked := none }) _
  jvm_step X₁.here [X₁.here.top, hexec, d3', Value.category]
  exact X₁.ldcStringW hexec (own := own) (text := text) (index := is) (a := sa) hown' hstr'.1 hstr'.2
    (g := { method := m, pc := pc + 4, locals := ls, stack := .ref T.heap.size :: .ref T.heap.size :: rest, locked := none }) rfl d4' _ hsteps
end NSR
/-- what a throw asks of the state: two fields of Throwable, four words that aren't on the list of the good ones -/
def vxZ (A : Nat → Prop) (U : State) (H : Heap) : Prop := vx_Zq Bundle.tN "UNASSIGNED_STACK" Bundle.steD A U H ∧ vx_Zq Bundle.tN "SUPPRESSED_SENTINEL" Bundle.listD A U H
def vxN (U : State) : Prop := va_Nw (.castable thE thE) U ∧ va_Nw (.declares (Bundle.initS "java/lang/RuntimeException")) U ∧ va_Nw (.declares (Bundle.initS "java/lang/Exception")) U ∧ va_Nw (.declares (Bundle.initS Bundle.tN)) U
theorem vxZ.kept {A : Nat → Prop} {U : State} {H H1 : Heap} (h : vxZ A U H) (hq : ∀ a : Nat, a < H.size → ¬ A a → H1[a]? = H[a]?) : vxZ A U H1 := ⟨h.1.kept hq, h.2.kept hq⟩
theorem vxZ.narrow {A B : Nat → Prop} {U : State} {H : Heap} (h : vxZ A U H) (hAB : ∀ q, B q → A q) : vxZ B U H := ⟨h.1.narrow hAB, h.2.narrow hAB⟩
theorem vxZ.moved {A : Nat → Prop} {u U : State} {H : Heap} (hvm : u.vm.Alike U.vm) (h : vxZ A u H) : vxZ A U H := ⟨vx_Zq.moved hvm h.1, vx_Zq.moved hvm h.2⟩
theorem vxN.warm {s U : State} (hW : s.WarmedH U.vm) (h : vxN s) : vxN U := ⟨va_Nw.warmC hW h.1, va_Nw.warmD hW h.2.1, va_Nw.warmD hW h.2.2.1, va_Nw.warmD hW h.2.2.2⟩
theorem vxN.same {u U : State} (h : u.vm = U.vm) (hN : vxN u) : vxN U := ⟨va_Nw.same rfl h hN.1, va_Nw.same rfl h hN.2.1, va_Nw.same rfl h hN.2.2.1, va_Nw.same rfl h hN.2.2.2⟩
def EntX (D : va_G) (aC : Nat → ClassId) (ad : Nat → Nat) (sg : SG) (M : Mem) (sz : Nat) : State → Prop := fun U => Ent D aC ad sg M sz U ∧ vxZ (AA ad sz) U U.heap ∧ vxN U
def MetX (l : Launch) (D : va_G) (aC : Nat → ClassId) (ad : Nat → Nat) (sg : SG) (y : MethodName) (cc : ByteArray) (maxL : Nat) (ret : Option FieldType) (rm : Room) (mc ms : Nat) (av : List Value) (M : Mem) (r : Int) (M' : Mem) : Prop :=
  ∀ sz : Nat, vx_Met l y (.code y cc maxL ret :: BW) rm (va_Pc av (EntX D aC ad sg M sz)) (va_Qi (fun q (_ : Unit) => q = i2 r ∧ inR r ∧ inM M') (fun _ t => va_P D vwCl (wl aC ad M') t.heap) (AA ad sz)) (vx_X (fun (_ : Unit) => r = 2147483648 ∧ inM M') (fun E _ t => E = thE ∧ va_P D vwCl (wl aC ad M') t.heap) (AA ad sz)) mc ms (AA ad sz)
theorem thX_x0 : ∀ w ∈ (nsAx RX10 279).filter goodWord, w ∈ lw_tbl := by decide +kernel
theorem thX_good : ∀ w ∈ (nsAx RX10 279).filter goodWord, w ∈ BW := fun w hw => BW_in (thX_x0 w hw) (List.mem_filter.mp hw).2
theorem thX_rest : ∀ w ∈ (nsAx RX10 279).filter (fun w => !goodWord w), w ∈ [Cond.castable thE thE, .declares (Bundle.initS "java/lang/RuntimeException"), .declares (Bundle.initS "java/lang/Exception"), .declares (Bundle.initS Bundle.tN)] := by decide +kernel
theorem thX_ot : ∀ w ∈ Cond.classLink RX10 275 thE :: Cond.initialized thE :: nsAx RX10 279, vx_ot w = true := by decide +kernel
theorem thX_k : Cond.classLink RX10 275 thE ∈ BW := by
  have h : (decide (Cond.classLink RX10 275 thE ∈ lw_tbl) && goodWord (Cond.classLink RX10 275 thE)) = true := by decide +kernel
  simp only [Bool.and_eq_true, decide_eq_true_eq] at h
  exact BW_in h.1 h.2
theorem thX_i : Cond.initialized thE ∈ BW := by
  have h : (decide (Cond.initialized thE ∈ lw_tbl) && goodWord (Cond.initialized thE)) = true := by decide +kernel
  simp only [Bool.and_eq_true, decide_eq_true_eq] at h
  exact BW_in h.1 h.2
theorem vxN.use {args : Array Value} {s : State} (h : vxN s) : ∀ w ∈ [Cond.castable thE thE, .declares (Bundle.initS "java/lang/RuntimeException"), .declares (Bundle.initS "java/lang/Exception"), .declares (Bundle.initS Bundle.tN)], w.before args s = true :=
  vx_c (va_Nw.use rfl h.1) (vx_c (va_Nw.use rfl h.2.1) (vx_c (va_Nw.use rfl h.2.2.1) (vx_c (va_Nw.use rfl h.2.2.2) vx_n)))
section VXK
variable {l : Launch} {D : va_G} {aC : Nat → ClassId} {ad : Nat → Nat} {sg : SG} {M M' : Mem} {y : MethodName} {cc : ByteArray} {maxL : Nat} {rm : Room} {av : List Value} {r : Int}
theorem MetX.of (hl0 : l.stackTraces = false) (hy : plainName y.cls = true) (hyc : y.cls = RX10) (hal : (lg_sl av).length ≤ maxL) (hrm : 5 < rm.frames ∧ 82 ≤ rm.locals ∧ rm.cells = 1 ∧ rm.slots = 6) (hi : Inj ad) (hM : inM M)
    (body : ∀ (p : Program) (e : Env) (s : State) (m : MethodId) (args : Array Value) (below : List Frame) (meth : Method) (c : Code) (Q : State → Prop) (H0 : Heap) (ls : Array Slot), CX p s m args c cc maxL y.cls D aC ad sg (AA ad H0.size) H0 → lv_has ls maxL (lv_args 0 av) → WS D aC ad (AA ad H0.size) H0 M H0 [] →
      (∀ (H : Heap) (locs : List Loc) (pc : Nat) (ls : Array Slot), inR r → WS D aC ad (AA ad H0.size) H0 M' H locs → decode cc pc = .ok (.ireturn, 1) → W p l e rm s m args below meth c H locs 0 0 Q (F0 m pc ls [.int (i2 r)])) →
      (∀ (i : Nat) (H : Heap) (locs : List Loc) (pc : Nat) (ls : Array Slot), r = 2147483648 → WS D aC ad (AA ad H0.size) H0 M' H locs → thrAt cc RX10 i pc → ls.size = maxL → W p l e rm s m args below meth c H locs 0 0 Q (F0 m pc ls [])) →
      W p l e rm s m args below meth c H0 [] 0 0 Q (F0 m 0 ls [])) :
    MetX l D aC ad sg y cc maxL (some .int) rm 1 6 av M r M' := by
  intro sz
  refine vx_ofW (cc := cc) (maxL := maxL) (ret := some .int) hy rfl ?_
  intro p e s m args below meth c s₁ B hml htab hv
  obtain ⟨rfl, ⟨hsz, hPw, hK, hSt⟩, hZ, hN⟩ := hv
  subst hsz
  have hts := atoms_spec (ws := .code y cc maxL (some .int) :: BW) B.pre
  have hown : s.vm.findClass y.cls = some m.cls := findClass_of_methodNamed B.named
  have hlocks := B.notSynchronized
  have hlv := lv_entry av (n := maxL) hal
  rw [lg_entry_eq]
  generalize (lg_sl av ++ List.replicate (maxL - (lg_sl av).length) Slot.unset).toArray = ls at hlv ⊢
  refine body p e s m _ below meth c _ s.heap ls ⟨⟨B.exec, B.bytes, hml, hown, fun w hw => hts w (List.mem_cons_of_mem _ hw)⟩, hK, hi, fun k hk => Or.inl ⟨k, hk, rfl⟩, fun q h => Or.inr h, rfl, hSt⟩ hlv ⟨hPw, va_S.rf, hM⟩ (fun H locs pc ls hr w dg => ?_) (fun i H locs pc ls hr w ht hls => ?_)
  · refine vx_ret ?_
    refine (fun k => fun T hT X => k T hT (stand_widen X (Nat.zero_le 1) (Nat.zero_le 6)) : W p l e rm s m av.toArray below meth c H locs 1 6 _ (F0 m pc ls [Value.int (i2 r)]) → _) ?_
    exact W.zret (v := i2 r) B.exec B.bytes B.returns rfl (fun t ht hW => ⟨⟨i2 r, (), rfl, ⟨rfl, hr, w.2.2⟩, by show va_P _ _ _ t.heap; rw [ht]; exact w.1⟩, w.2.1.F ht⟩) w.2.1.2.2 dg
  · obtain ⟨hin, how, d0, d3, d4, d7, d10⟩ := ht
    have hstr := (hSt.1 i hin).2.2.2.2
    rw [how] at hstr
    rw [hyc] at hown
    obtain ⟨r1, r2, r3, r4⟩ := hrm
    refine ns_throw (own := RX10) (text := sTx.getD i "") (sa := sg.1 i) (A := AA ad s.heap.size) B.exec B.bytes hl0 hown (hts _ (List.mem_cons_of_mem _ thX_k)) (hts _ (List.mem_cons_of_mem _ thX_i)) hstr (vx_hat (fun w hw => hts _ (List.mem_cons_of_mem _ (thX_good w hw))) thX_rest hN.use) thX_ot hZ.1 hZ.2 w.2.1 (by rw [hls, hml]) d0 d3 d4 d7 d10 (fun x hx => (htab x hx).elim) ?_ ?_ ?_ ?_ hlocks ?_ w.2.1.2.2 (Nat.le_refl _) (Nat.le_refl _)
    · exact r1
    · exact r2
    · show 0 + 1 ≤ rm.cells; omega
    · show 0 + 6 ≤ rm.slots; omega
    · intro t hvm hsz hq
      refine ⟨(), ⟨hr, w.2.2⟩, ⟨rfl, w.1.kept fun k q hk => hq q.1 (vx_lt w.1 hk)⟩, ⟨Nat.le_trans w.2.1.1 hsz, fun q h1 h2 => ?_⟩⟩
      rw [hq q (Nat.lt_of_lt_of_le h1 w.2.1.1)]
      exact w.2.1.2.1 q h1 h2
set_option maxRecDepth 100000 in
set_option maxHeartbeats 4000000 in
theorem k_X10_of (hl0 : l.stackTraces = false) (hi : Inj ad) (p1 : Int) (hp1 : inR p1) (p2 : Int) (hp2 : inR p2) {M : Mem} (hM : inM M) {r : Int} {M' : Mem} (hf : f_X10_of p1 p2 M = some (r, M')) : MetX l D aC ad sg yX10_of cX10_of 3 (some .int) rm_X10_of 1 6 [.ref (ad 0), .int (i2 p1), .int (i2 p2)] M r M' := by
  refine MetX.of hl0 (by decide +kernel) rfl (nle rfl) ⟨nle rfl, nle rfl, rfl, rfl⟩ hi hM (fun p e s m args below meth c Q H0 ls X hl w hret hthr => ?_)
  exact b_X10_of_0 X (fun r1 M1 H locs pc ls eo hP w dg => by cases eo; exact hret H locs pc ls hP w dg) (fun M1 i H locs pc ls eo w ht hs => by cases eo; exact hthr i H locs pc ls rfl w ht hs) p1 hp1 p2 hp2 M hf hl w
set_option maxRecDepth 100000 in
set_option maxHeartbeats 4000000 in
theorem k_X10_lie (hl0 : l.stackTraces = false) (hi : Inj ad) (p1 : Int) (hp1 : inR p1) (p2 : Int) (hp2 : inR p2) {M : Mem} (hM : inM M) {r : Int} {M' : Mem} (hf : f_X10_lie p1 p2 M = some (r, M')) : MetX l D aC ad sg yX10_lie cX10_lie 8 (some .int) rm_X10_lie 1 6 [.ref (ad 0), .int (i2 p1), .int (i2 p2)] M r M' := by
  refine MetX.of hl0 (by decide +kernel) rfl (nle rfl) ⟨nle rfl, nle rfl, rfl, rfl⟩ hi hM (fun p e s m args below meth c Q H0 ls X hl w hret hthr => ?_)
  exact b_X10_lie_0 X (fun r1 M1 H locs pc ls eo hP w dg => by cases eo; exact hret H locs pc ls hP w dg) (fun M1 i H locs pc ls eo w ht hs => by cases eo; exact hthr i H locs pc ls rfl w ht hs) p1 hp1 p2 hp2 M hf hl w
end VXK
