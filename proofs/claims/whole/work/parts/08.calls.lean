/-! contracts, and calls of methods that have one -/
def Ent (D : va_G) (aC : Nat → ClassId) (ad : Nat → Nat) (M : Mem) (sz : Nat) : State → Prop := fun U => U.heap.size = sz ∧ va_P D vwCl (wl aC ad M) U.heap ∧ va_K D vwCl (tysL aC) U
def MetI (l : Launch) (D : va_G) (aC : Nat → ClassId) (ad : Nat → Nat) (y : MethodName) (cc : ByteArray) (maxL : Nat) (ret : Option FieldType) (rm : Room) (mc ms : Nat) (av : List Value) (M : Mem) (r : Int) (M' : Mem) : Prop := ∀ sz : Nat, Met l y (.code y cc maxL ret :: BW) rm (va_Pc av (Ent D aC ad M sz)) (va_Qi (fun q (_ : Unit) => q = i2 r ∧ inR r ∧ inM M') (fun _ t => va_P D vwCl (wl aC ad M') t.heap) (AA ad sz)) mc ms (AA ad sz)
def MetV (l : Launch) (D : va_G) (aC : Nat → ClassId) (ad : Nat → Nat) (y : MethodName) (cc : ByteArray) (maxL : Nat) (rm : Room) (mc ms : Nat) (av : List Value) (M M' : Mem) : Prop := ∀ sz : Nat, Met l y (.code y cc maxL none :: BW) rm (va_Pc av (Ent D aC ad M sz)) (va_Qv (fun (_ : Unit) => inM M') (fun _ t => va_P D vwCl (wl aC ad M') t.heap) (AA ad sz)) mc ms (AA ad sz)
def LkB (own : String) (idx : Nat) (y : MethodName) (cc : ByteArray) (maxL : Nat) (ret : Option FieldType) (n : Nat) : Prop := Cond.code y cc maxL ret ∈ BW ∧ Cond.methodLink own idx y ∈ BW ∧ Cond.initialized y.cls ∈ BW ∧ (y.cls ≠ "java/lang/invoke/MethodHandle" ∧ y.cls ≠ "java/lang/invoke/VarHandle" ∧ (parseMethodDescriptor y.desc).map (fun d => d.parameters.length) = some n)
def LkV (own : String) (idx : Nat) (y : MethodName) (cc : ByteArray) (maxL : Nat) (ret : Option FieldType) (n : Nat) : Prop := LkB own idx y cc maxL ret n ∧ Cond.instanceMethod y ∈ BW ∧ Cond.selects y.cls y y ∈ BW
def LkS (own : String) (idx : Nat) (y : MethodName) (cc : ByteArray) (maxL : Nat) (ret : Option FieldType) (n : Nat) : Prop := LkB own idx y cc maxL ret n ∧ Cond.static y ∈ BW
/-- a static method of a nest mate that is private -/
def LkSN (own : String) (idx : Nat) (y : MethodName) (host : String) (cc : ByteArray) (maxL : Nat) (ret : Option FieldType) (n : Nat) : Prop := Cond.code y cc maxL ret ∈ BW ∧ Cond.methodLinkNest own idx y host ∈ BW ∧ Cond.initialized y.cls ∈ BW ∧ (y.cls ≠ "java/lang/invoke/MethodHandle" ∧ y.cls ≠ "java/lang/invoke/VarHandle" ∧ (parseMethodDescriptor y.desc).map (fun d => d.parameters.length) = some n) ∧ Cond.static y ∈ BW
theorem good_cons {y : MethodName} {cc : ByteArray} {maxL : Nat} {ret : Option FieldType} (h : Cond.code y cc maxL ret ∈ BW) : GoodIn BW (.code y cc maxL ret :: BW) := by
  intro w hw
  rcases List.mem_cons.mp hw with rfl | h2
  · exact ⟨h, BW_good h⟩
  · exact ⟨h2, BW_good h2⟩
section GCALL
variable {p : Program} {l : Launch} {e : Env} {R : Room} {s : State} {m : MethodId} {args : Array Value} {below : List Frame} {meth : Method} {c : Code} {H : Heap} {locs : List Loc} {cells slots : Nat} {Q : State → Prop}
variable {cc : ByteArray} {nL : Nat} {own : String} {D : va_G} {aC : Nat → ClassId} {ad : Nat → Nat} {A : Nat → Prop} {H0 : Heap} {M M' : Mem} {pc : Nat} {ls : Array Slot} {rest : List Value}
variable {idx maxL mc ms n : Nat} {y : MethodName} {ck : ByteArray} {ret : Option FieldType} {rm : Room} {As st : List Value} {r : Int}
theorem lk_B (hts : ∀ w ∈ BW, w.before args s = true) (lk : LkB own idx y ck maxL ret n) (hrm : rm.cells = mc ∧ rm.slots = ms) (hR : rm.frames + 1 ≤ R.frames ∧ 8 + (maxL + 11) + rm.locals ≤ R.locals) : CallB R s args own idx y ck maxL ret (.code y ck maxL ret :: BW) rm mc ms n :=
  callB_of n hts (good_cons lk.1) rfl hrm.1 hrm.2 (hts _ lk.2.2.1) (hts _ lk.2.1) lk.2.2.2 hR
theorem Ent.blind {av : List Value} {sz : Nat} : FrameBlind (va_Pc av (Ent D aC ad M sz)) := fun a U g mk q => by
  obtain ⟨q0, q1, qP, qK⟩ := q
  exact ⟨q0, q1, qP, va_K.moved (u := U) (U := U.calling g mk a) (Vm.Alike.refl U.vm) qK⟩
theorem Ent.at {av : List Value} (hK : va_K D vwCl (tysL aC) s) (w : WS D aC ad A H0 M H locs) : ∀ U : State, U.heap = H → s.WarmedH U.vm → va_Pc av (Ent D aC ad M H.size) av.toArray U := fun U hU hW => ⟨rfl, by rw [hU], by rw [hU]; exact w.1, va_K.moved hW.alike hK⟩
theorem AA_sub (X : CX p s m args c cc nL own D aC ad A H0) (w : WS D aC ad A H0 M H locs) : ∀ q, AA ad H.size q → A q := by
  intro q hq
  rcases hq with ⟨k, hk, rfl⟩ | h
  · exact X.2.2.2.1 k hk
  · exact X.2.2.2.2 q (Nat.le_trans w.2.1.1 h)
theorem g_cvi {o ci N : Nat} {T : u_T} (X : CX p s m args c cc nL own D aC ad A H0) (w : WS D aC ad A H0 M H locs) (hM : MetI l D aC ad y ck maxL ret rm mc ms (.ref (ad o) :: As) M r M') (lk : LkV own idx y ck maxL ret As.length) (hcl : vwCl[ci]? = some (y.cls, T, N)) (ho : KD[o]? = some (.inl ci)) (hrm : rm.cells = mc ∧ rm.slots = ms) (hR : rm.frames + 1 ≤ R.frames ∧ 8 + (maxL + 11) + rm.locals ≤ R.locals) (hc : cells + mc ≤ R.cells ∧ slots + ms ≤ R.slots) (hln : ls.size = nL) (hst : st = As.reverse ++ .ref (ad o) :: rest) (hr8 : (rest.map fun v => v.category).sum ≤ 8) (dg : decode cc pc = .ok (.invokevirtual idx, 3))
    (kk : inR r → ∀ (H1 : Heap) (locs1 : List Loc), WS D aC ad A H0 M' H1 locs1 → W p l e R s m args below meth c H1 locs1 (cells + mc) (slots + ms) Q (F0 m (pc + 3) ls (.int (i2 r) :: rest))) : W p l e R s m args below meth c H locs cells slots Q (F0 m pc ls st) := by
  have hF := AA_sub X w
  obtain ⟨S, hK, hi, hA⟩ := X
  have hts := S.2.2.2.2
  refine va_calli (va_runV (As := As) (rest := rest) S (hM H.size) ⟨lk_B hts lk.1 hrm hR, hts _ lk.2.1, hts _ lk.2.2⟩ ⟨Ent.blind, va_recv hK w.1 (ci := ci) (q0 := o) hcl ((wl_get (KD_lt ho)).trans (by rw [enc_o ho])), Ent.at hK w⟩ rfl rfl hln hst (lv_room hr8) dg hc) w.2.1 (fun q _ h => hF q h) hF (fun q u t H1 locs1 ht hvm hw hB hz hk hS => ?_)
  obtain ⟨rfl, h1, h2⟩ := hw
  rw [ht] at hB
  exact kk h1 H1 locs1 ⟨hB, hS, h2⟩
theorem g_cvv {o ci N : Nat} {T : u_T} (X : CX p s m args c cc nL own D aC ad A H0) (w : WS D aC ad A H0 M H locs) (hM : MetV l D aC ad y ck maxL rm mc ms (.ref (ad o) :: As) M M') (lk : LkV own idx y ck maxL none As.length) (hcl : vwCl[ci]? = some (y.cls, T, N)) (ho : KD[o]? = some (.inl ci)) (hrm : rm.cells = mc ∧ rm.slots = ms) (hR : rm.frames + 1 ≤ R.frames ∧ 8 + (maxL + 11) + rm.locals ≤ R.locals) (hc : cells + mc ≤ R.cells ∧ slots + ms ≤ R.slots) (hln : ls.size = nL) (hst : st = As.reverse ++ .ref (ad o) :: rest) (hr8 : (rest.map fun v => v.category).sum ≤ 8) (dg : decode cc pc = .ok (.invokevirtual idx, 3))
    (kk : ∀ (H1 : Heap) (locs1 : List Loc), WS D aC ad A H0 M' H1 locs1 → W p l e R s m args below meth c H1 locs1 (cells + mc) (slots + ms) Q (F0 m (pc + 3) ls rest)) : W p l e R s m args below meth c H locs cells slots Q (F0 m pc ls st) := by
  have hF := AA_sub X w
  obtain ⟨S, hK, hi, hA⟩ := X
  have hts := S.2.2.2.2
  refine va_callv (va_runV (As := As) (rest := rest) S (hM H.size) ⟨lk_B hts lk.1 hrm hR, hts _ lk.2.1, hts _ lk.2.2⟩ ⟨Ent.blind, va_recv hK w.1 (ci := ci) (q0 := o) hcl ((wl_get (KD_lt ho)).trans (by rw [enc_o ho])), Ent.at hK w⟩ rfl rfl hln hst (lv_room hr8) dg hc) w.2.1 (fun q _ h => hF q h) hF (fun u t H1 locs1 ht hvm hw hB hz hk hS => ?_)
  rw [ht] at hB
  exact kk H1 locs1 ⟨hB, hS, hw⟩
theorem g_csi (X : CX p s m args c cc nL own D aC ad A H0) (w : WS D aC ad A H0 M H locs) (hM : MetI l D aC ad y ck maxL ret rm mc ms As M r M') (lk : LkS own idx y ck maxL ret As.length) (hrm : rm.cells = mc ∧ rm.slots = ms) (hR : rm.frames + 1 ≤ R.frames ∧ 8 + (maxL + 11) + rm.locals ≤ R.locals) (hc : cells + mc ≤ R.cells ∧ slots + ms ≤ R.slots) (hln : ls.size = nL) (hst : st = As.reverse ++ rest) (hr8 : (rest.map fun v => v.category).sum ≤ 8) (dg : decode cc pc = .ok (.invokestatic idx, 3))
    (kk : inR r → ∀ (H1 : Heap) (locs1 : List Loc), WS D aC ad A H0 M' H1 locs1 → W p l e R s m args below meth c H1 locs1 (cells + mc) (slots + ms) Q (F0 m (pc + 3) ls (.int (i2 r) :: rest))) : W p l e R s m args below meth c H locs cells slots Q (F0 m pc ls st) := by
  have hF := AA_sub X w
  obtain ⟨S, hK, hi, hA⟩ := X
  have hts := S.2.2.2.2
  refine va_calli (va_runS (As := As) (rest := rest) S (hM H.size) ⟨lk_B hts lk.1 hrm hR, hts _ lk.2⟩ ⟨Ent.blind, Ent.at hK w⟩ rfl rfl hln hst (lv_room hr8) dg hc) w.2.1 (fun q _ h => hF q h) hF (fun q u t H1 locs1 ht hvm hw hB hz hk hS => ?_)
  obtain ⟨rfl, h1, h2⟩ := hw
  rw [ht] at hB
  exact kk h1 H1 locs1 ⟨hB, hS, h2⟩
theorem g_csv (X : CX p s m args c cc nL own D aC ad A H0) (w : WS D aC ad A H0 M H locs) (hM : MetV l D aC ad y ck maxL rm mc ms As M M') (lk : LkS own idx y ck maxL none As.length) (hrm : rm.cells = mc ∧ rm.slots = ms) (hR : rm.frames + 1 ≤ R.frames ∧ 8 + (maxL + 11) + rm.locals ≤ R.locals) (hc : cells + mc ≤ R.cells ∧ slots + ms ≤ R.slots) (hln : ls.size = nL) (hst : st = As.reverse ++ rest) (hr8 : (rest.map fun v => v.category).sum ≤ 8) (dg : decode cc pc = .ok (.invokestatic idx, 3))
    (kk : ∀ (H1 : Heap) (locs1 : List Loc), WS D aC ad A H0 M' H1 locs1 → W p l e R s m args below meth c H1 locs1 (cells + mc) (slots + ms) Q (F0 m (pc + 3) ls rest)) : W p l e R s m args below meth c H locs cells slots Q (F0 m pc ls st) := by
  have hF := AA_sub X w
  obtain ⟨S, hK, hi, hA⟩ := X
  have hts := S.2.2.2.2
  refine va_callv (va_runS (As := As) (rest := rest) S (hM H.size) ⟨lk_B hts lk.1 hrm hR, hts _ lk.2⟩ ⟨Ent.blind, Ent.at hK w⟩ rfl rfl hln hst (lv_room hr8) dg hc) w.2.1 (fun q _ h => hF q h) hF (fun u t H1 locs1 ht hvm hw hB hz hk hS => ?_)
  rw [ht] at hB
  exact kk H1 locs1 ⟨hB, hS, hw⟩
theorem g_csn {host : String} (X : CX p s m args c cc nL own D aC ad A H0) (w : WS D aC ad A H0 M H locs) (hM : MetI l D aC ad y ck maxL ret rm mc ms As M r M') (lk : LkSN own idx y host ck maxL ret As.length) (hrm : rm.cells = mc ∧ rm.slots = ms) (hR : rm.frames + 1 ≤ R.frames ∧ 8 + (maxL + 11) + rm.locals ≤ R.locals) (hc : cells + mc ≤ R.cells ∧ slots + ms ≤ R.slots) (hln : ls.size = nL) (hst : st = As.reverse ++ rest) (hr8 : (rest.map fun v => v.category).sum ≤ 8) (dg : decode cc pc = .ok (.invokestatic idx, 3))
    (kk : inR r → ∀ (H1 : Heap) (locs1 : List Loc), WS D aC ad A H0 M' H1 locs1 → W p l e R s m args below meth c H1 locs1 (cells + mc) (slots + ms) Q (F0 m (pc + 3) ls (.int (i2 r) :: rest))) : W p l e R s m args below meth c H locs cells slots Q (F0 m pc ls st) := by
  have hF := AA_sub X w
  obtain ⟨S, hK, hi, hA⟩ := X
  have hts := S.2.2.2.2
  obtain ⟨l1, l2, l3, l4, l5⟩ := lk
  refine va_calli (va_runSN (As := As) (rest := rest) (host := host) S (hM H.size) ⟨⟨⟨hrm.1, hrm.2, hR.1, hR.2, pay_in hts (good_cons l1), List.mem_cons_self⟩, hts _ l1, hts _ l3, ⟨l4.1, l4.2.1⟩, fun sig h => ?_, hts _ l2⟩, hts _ l5, trivial⟩ ⟨Ent.blind, Ent.at hK w⟩ rfl rfl hln hst (lv_room hr8) dg hc) w.2.1 (fun q _ h => hF q h) hF (fun q u t H1 locs1 ht hvm hw hB hz hk hS => ?_)
  · have h2 := l4.2.2
    rw [h] at h2
    exact (Option.some.inj h2).symm
  obtain ⟨rfl, h1, h2⟩ := hw
  rw [ht] at hB
  exact kk h1 H1 locs1 ⟨hB, hS, h2⟩
end GCALL
section GENT
variable {l : Launch} {D : va_G} {aC : Nat → ClassId} {ad : Nat → Nat} {M M' : Mem} {y : MethodName} {cc : ByteArray} {maxL : Nat} {rm : Room} {av : List Value} {r : Int}
theorem MetI.of {ty : FieldType} (P : Int → Prop) (hP : ∀ x, P x → inR x ∧ narrow ty (.int (i2 x)) = .int (i2 x)) (hy : plainName y.cls = true) (hal : (lg_sl av).length ≤ maxL) (hi : Inj ad) (hM : inM M)
    (body : ∀ (p : Program) (e : Env) (s : State) (m : MethodId) (args : Array Value) (below : List Frame) (meth : Method) (c : Code) (Q : State → Prop) (H0 : Heap) (ls : Array Slot), CX p s m args c cc maxL y.cls D aC ad (AA ad H0.size) H0 → lv_has ls maxL (lv_args 0 av) → WS D aC ad (AA ad H0.size) H0 M H0 [] →
      (∀ (H : Heap) (locs : List Loc) (pc : Nat) (ls : Array Slot), P r → WS D aC ad (AA ad H0.size) H0 M' H locs → decode cc pc = .ok (.ireturn, 1) → W p l e rm s m args below meth c H locs rm.cells rm.slots Q (F0 m pc ls [.int (i2 r)])) → W p l e rm s m args below meth c H0 [] 0 0 Q (F0 m 0 ls [])) :
    MetI l D aC ad y cc maxL (some ty) rm rm.cells rm.slots av M r M' := by
  intro sz
  refine Met.ofW (cc := cc) (maxL := maxL) (ret := some ty) hy rfl ?_
  intro p e s m args below meth c s₁ B hml hv
  obtain ⟨rfl, hsz, hPw, hK⟩ := hv
  subst hsz
  have hts := atoms_spec (ws := .code y cc maxL (some ty) :: BW) B.pre
  have hown : s.vm.findClass y.cls = some m.cls := findClass_of_methodNamed B.named
  have hlocks := B.notSynchronized
  have hl := lv_entry av (n := maxL) hal
  rw [lg_entry_eq]
  generalize (lg_sl av ++ List.replicate (maxL - (lg_sl av).length) Slot.unset).toArray = ls at hl ⊢
  refine body p e s m _ below meth c _ s.heap ls ⟨⟨B.exec, B.bytes, hml, hown, fun w hw => hts w (List.mem_cons_of_mem _ hw)⟩, hK, hi, fun k hk => Or.inl ⟨k, hk, rfl⟩, fun q h => Or.inr h⟩ hl ⟨hPw, va_S.rf, hM⟩ (fun H locs pc ls hr w dg => ?_)
  exact W.zret (v := i2 r) B.exec B.bytes B.returns (hP r hr).2 (fun t ht hW => ⟨⟨i2 r, (), rfl, ⟨rfl, (hP r hr).1, w.2.2⟩, by show va_P _ _ _ t.heap; rw [ht]; exact w.1⟩, w.2.1.F ht⟩) w.2.1.2.2 dg
theorem MetI.ofI (hy : plainName y.cls = true) (hal : (lg_sl av).length ≤ maxL) (hi : Inj ad) (hM : inM M)
    (body : ∀ (p : Program) (e : Env) (s : State) (m : MethodId) (args : Array Value) (below : List Frame) (meth : Method) (c : Code) (Q : State → Prop) (H0 : Heap) (ls : Array Slot), CX p s m args c cc maxL y.cls D aC ad (AA ad H0.size) H0 → lv_has ls maxL (lv_args 0 av) → WS D aC ad (AA ad H0.size) H0 M H0 [] →
      (∀ (H : Heap) (locs : List Loc) (pc : Nat) (ls : Array Slot), inR r → WS D aC ad (AA ad H0.size) H0 M' H locs → decode cc pc = .ok (.ireturn, 1) → W p l e rm s m args below meth c H locs rm.cells rm.slots Q (F0 m pc ls [.int (i2 r)])) → W p l e rm s m args below meth c H0 [] 0 0 Q (F0 m 0 ls [])) :
    MetI l D aC ad y cc maxL (some .int) rm rm.cells rm.slots av M r M' := MetI.of inR (fun x h => ⟨h, rfl⟩) hy hal hi hM body
abbrev isZ (r : Int) : Prop := r = 0 ∨ r = 1
theorem isZ.inR {r : Int} (h : isZ r) : inR r := by rcases h with rfl | rfl <;> exact ⟨by decide, by decide⟩
theorem MetI.ofZ (hy : plainName y.cls = true) (hal : (lg_sl av).length ≤ maxL) (hi : Inj ad) (hM : inM M)
    (body : ∀ (p : Program) (e : Env) (s : State) (m : MethodId) (args : Array Value) (below : List Frame) (meth : Method) (c : Code) (Q : State → Prop) (H0 : Heap) (ls : Array Slot), CX p s m args c cc maxL y.cls D aC ad (AA ad H0.size) H0 → lv_has ls maxL (lv_args 0 av) → WS D aC ad (AA ad H0.size) H0 M H0 [] →
      (∀ (H : Heap) (locs : List Loc) (pc : Nat) (ls : Array Slot), isZ r → WS D aC ad (AA ad H0.size) H0 M' H locs → decode cc pc = .ok (.ireturn, 1) → W p l e rm s m args below meth c H locs rm.cells rm.slots Q (F0 m pc ls [.int (i2 r)])) → W p l e rm s m args below meth c H0 [] 0 0 Q (F0 m 0 ls [])) :
    MetI l D aC ad y cc maxL (some .boolean) rm rm.cells rm.slots av M r M' := MetI.of isZ (fun x h => ⟨h.inR, (i2_bool h).1⟩) hy hal hi hM body
theorem MetV.of (hy : plainName y.cls = true) (hal : (lg_sl av).length ≤ maxL) (hi : Inj ad) (hM : inM M)
    (body : ∀ (p : Program) (e : Env) (s : State) (m : MethodId) (args : Array Value) (below : List Frame) (meth : Method) (c : Code) (Q : State → Prop) (H0 : Heap) (ls : Array Slot), CX p s m args c cc maxL y.cls D aC ad (AA ad H0.size) H0 → lv_has ls maxL (lv_args 0 av) → WS D aC ad (AA ad H0.size) H0 M H0 [] →
      (∀ (H : Heap) (locs : List Loc) (pc : Nat) (ls : Array Slot), WS D aC ad (AA ad H0.size) H0 M' H locs → decode cc pc = .ok (.return_, 1) → W p l e rm s m args below meth c H locs rm.cells rm.slots Q (F0 m pc ls [])) → W p l e rm s m args below meth c H0 [] 0 0 Q (F0 m 0 ls [])) :
    MetV l D aC ad y cc maxL rm rm.cells rm.slots av M M' := by
  intro sz
  refine Met.ofW (cc := cc) (maxL := maxL) (ret := none) hy rfl ?_
  intro p e s m args below meth c s₁ B hml hv
  obtain ⟨rfl, hsz, hPw, hK⟩ := hv
  subst hsz
  have hts := atoms_spec (ws := .code y cc maxL none :: BW) B.pre
  have hown : s.vm.findClass y.cls = some m.cls := findClass_of_methodNamed B.named
  have hlocks := B.notSynchronized
  have hl := lv_entry av (n := maxL) hal
  rw [lg_entry_eq]
  generalize (lg_sl av ++ List.replicate (maxL - (lg_sl av).length) Slot.unset).toArray = ls at hl ⊢
  refine body p e s m _ below meth c _ s.heap ls ⟨⟨B.exec, B.bytes, hml, hown, fun w hw => hts w (List.mem_cons_of_mem _ hw)⟩, hK, hi, fun k hk => Or.inl ⟨k, hk, rfl⟩, fun q h => Or.inr h⟩ hl ⟨hPw, va_S.rf, hM⟩ (fun H locs pc ls w dg => ?_)
  exact W.vret B.exec B.bytes B.returns (fun t ht hW => ⟨⟨(), rfl, w.2.2, by show va_P _ _ _ t.heap; rw [ht]; exact w.1⟩, w.2.1.F ht⟩) w.2.1.2.2 dg
end GENT
