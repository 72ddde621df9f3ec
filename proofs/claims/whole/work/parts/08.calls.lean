/-! contracts, and calls of methods that have one -/
def Ent (D : va_G) (aC : Nat → ClassId) (ad : Nat → Nat) (sg : SG) (M : Mem) (sz : Nat) : State → Prop := fun U => U.heap.size = sz ∧ va_P D vwCl (wl aC ad M) U.heap ∧ va_K D vwCl (tysL aC) U ∧ STR sg (AA ad sz) U U.heap
def MetI (l : Launch) (D : va_G) (aC : Nat → ClassId) (ad : Nat → Nat) (sg : SG) (y : MethodName) (cc : ByteArray) (maxL : Nat) (ret : Option FieldType) (rm : Room) (mc ms : Nat) (av : List Value) (M : Mem) (r : Int) (M' : Mem) : Prop := ∀ sz : Nat, Met l y (.code y cc maxL ret :: BW) rm (va_Pc av (Ent D aC ad sg M sz)) (va_Qi (fun q (_ : Unit) => q = i2 r ∧ inR r ∧ inM M') (fun _ t => va_P D vwCl (wl aC ad M') t.heap) (AA ad sz)) mc ms (AA ad sz)
def MetV (l : Launch) (D : va_G) (aC : Nat → ClassId) (ad : Nat → Nat) (sg : SG) (y : MethodName) (cc : ByteArray) (maxL : Nat) (rm : Room) (mc ms : Nat) (av : List Value) (M M' : Mem) : Prop := ∀ sz : Nat, Met l y (.code y cc maxL none :: BW) rm (va_Pc av (Ent D aC ad sg M sz)) (va_Qv (fun (_ : Unit) => inM M') (fun _ t => va_P D vwCl (wl aC ad M') t.heap) (AA ad sz)) mc ms (AA ad sz)
def LkB (own : String) (idx : Nat) (y : MethodName) (cc : ByteArray) (maxL : Nat) (ret : Option FieldType) (n : Nat) : Prop := Cond.code y cc maxL ret ∈ BW ∧ Cond.methodLink own idx y ∈ BW ∧ Cond.initialized y.cls ∈ BW ∧ (y.cls ≠ "java/lang/invoke/MethodHandle" ∧ y.cls ≠ "java/lang/invoke/VarHandle" ∧ (parseMethodDescriptor y.desc).map (fun d => d.parameters.length) = some n)
def LkV (own : String) (idx : Nat) (y : MethodName) (cc : ByteArray) (maxL : Nat) (ret : Option FieldType) (n : Nat) : Prop := LkB own idx y cc maxL ret n ∧ Cond.instanceMethod y ∈ BW ∧ Cond.selects y.cls y y ∈ BW
def LkS (own : String) (idx : Nat) (y : MethodName) (cc : ByteArray) (maxL : Nat) (ret : Option FieldType) (n : Nat) : Prop := LkB own idx y cc maxL ret n ∧ Cond.static y ∈ BW
/-- a static method of a nest mate that is private -/
def LkSN (own : String) (idx : Nat) (y : MethodName) (host : String) (cc : ByteArray) (maxL : Nat) (ret : Option FieldType) (n : Nat) : Prop := Cond.code y cc maxL ret ∈ BW ∧ Cond.methodLinkNest own idx y host = nestW ∧ Cond.initialized y.cls ∈ BW ∧ (y.cls ≠ "java/lang/invoke/MethodHandle" ∧ y.cls ≠ "java/lang/invoke/VarHandle" ∧ (parseMethodDescriptor y.desc).map (fun d => d.parameters.length) = some n) ∧ Cond.static y ∈ BW
theorem good_cons {y : MethodName} {cc : ByteArray} {maxL : Nat} {ret : Option FieldType} (h : Cond.code y cc maxL ret ∈ BW) : GoodIn BW (.code y cc maxL ret :: BW) := by
  intro w hw
  rcases List.mem_cons.mp hw with rfl | h2
  · exact ⟨h, BW_good h⟩
  · exact ⟨h2, BW_good h2⟩
section GCALL
variable {p : Program} {l : Launch} {e : Env} {R : Room} {s : State} {m : MethodId} {args : Array Value} {below : List Frame} {meth : Method} {c : Code} {H : Heap} {locs : List Loc} {cells slots : Nat} {Q : State → Prop}
variable {cc : ByteArray} {nL : Nat} {own : String} {D : va_G} {aC : Nat → ClassId} {ad : Nat → Nat} {sg : SG} {A : Nat → Prop} {H0 : Heap} {M M' : Mem} {pc : Nat} {ls : Array Slot} {rest : List Value}
variable {idx maxL mc ms n : Nat} {y : MethodName} {ck : ByteArray} {ret : Option FieldType} {rm : Room} {As st : List Value} {r : Int}
theorem lk_B (hts : ∀ w ∈ BW, w.before args s = true) (lk : LkB own idx y ck maxL ret n) (hrm : rm.cells = mc ∧ rm.slots = ms) (hR : rm.frames + 1 ≤ R.frames ∧ 8 + (maxL + 11) + rm.locals ≤ R.locals) : CallB R s args own idx y ck maxL ret (.code y ck maxL ret :: BW) rm mc ms n :=
  callB_of n hts (good_cons lk.1) rfl hrm.1 hrm.2 (hts _ lk.2.2.1) (hts _ lk.2.1) lk.2.2.2 hR
theorem Ent.blind {av : List Value} {sz : Nat} : FrameBlind (va_Pc av (Ent D aC ad sg M sz)) := fun a U g mk q => by
  obtain ⟨q0, q1, qP, qK, qS⟩ := q
  exact ⟨q0, q1, qP, va_K.moved (u := U) (U := U.calling g mk a) (Vm.Alike.refl U.vm) qK, STR.vmEq (s := U) rfl qS⟩
theorem AA_sub (X : CX p s m args c cc nL own D aC ad sg A H0) (w : WS D aC ad A H0 M H locs) : ∀ q, AA ad H.size q → A q := by
  intro q hq
  rcases hq with ⟨k, hk, rfl⟩ | h
  · exact X.2.2.2.1 k hk
  · exact X.2.2.2.2.1 q (Nat.le_trans w.2.1.1 h)
theorem Ent.at {av : List Value} (X : CX p s m args c cc nL own D aC ad sg A H0) (w : WS D aC ad A H0 M H locs) : ∀ U : State, U.heap = H → s.WarmedH U.vm → va_Pc av (Ent D aC ad sg M H.size) av.toArray U := fun U hU hW => ⟨rfl, by rw [hU], by rw [hU]; exact w.1, va_K.moved hW.alike X.2.1, by rw [hU]; exact STR.warm hW ((X.2.2.2.2.2.2.kept w.2.1.2.1).narrow (AA_sub X w))⟩
theorem g_cvi {o ci N : Nat} {T : u_T} (X : CX p s m args c cc nL own D aC ad sg A H0) (w : WS D aC ad A H0 M H locs) (hM : MetI l D aC ad sg y ck maxL ret rm mc ms (.ref (ad o) :: As) M r M') (lk : LkV own idx y ck maxL ret As.length) (hcl : vwCl[ci]? = some (y.cls, T, N)) (ho : KD[o]? = some (.inl ci)) (hrm : rm.cells = mc ∧ rm.slots = ms) (hR : rm.frames + 1 ≤ R.frames ∧ 8 + (maxL + 11) + rm.locals ≤ R.locals) (hc : cells + mc ≤ R.cells ∧ slots + ms ≤ R.slots) (hln : ls.size = nL) (hst : st = As.reverse ++ .ref (ad o) :: rest) (hr8 : (rest.map fun v => v.category).sum ≤ 8) (dg : decode cc pc = .ok (.invokevirtual idx, 3))
    (kk : inR r → ∀ (H1 : Heap) (locs1 : List Loc), WS D aC ad A H0 M' H1 locs1 → W p l e R s m args below meth c H1 locs1 (cells + mc) (slots + ms) Q (F0 m (pc + 3) ls (.int (i2 r) :: rest))) : W p l e R s m args below meth c H locs cells slots Q (F0 m pc ls st) := by
  have hF := AA_sub X w
  have hE := fun av => Ent.at (av := av) X w
  obtain ⟨S, hK, hi, hA⟩ := X
  have hts := S.2.2.2.2
  refine va_calli (va_runV (As := As) (rest := rest) S (hM H.size) ⟨lk_B hts lk.1 hrm hR, hts _ lk.2.1, hts _ lk.2.2⟩ ⟨Ent.blind, va_recv hK w.1 (ci := ci) (q0 := o) hcl ((wl_get (KD_lt ho)).trans (by rw [enc_o ho])), hE _⟩ rfl rfl hln hst (lv_room hr8) dg hc) w.2.1 (fun q _ h => hF q h) hF (fun q u t H1 locs1 ht hvm hw hB hz hk hS => ?_)
  obtain ⟨rfl, h1, h2⟩ := hw
  rw [ht] at hB
  exact kk h1 H1 locs1 ⟨hB, hS, h2⟩
theorem g_cvv {o ci N : Nat} {T : u_T} (X : CX p s m args c cc nL own D aC ad sg A H0) (w : WS D aC ad A H0 M H locs) (hM : MetV l D aC ad sg y ck maxL rm mc ms (.ref (ad o) :: As) M M') (lk : LkV own idx y ck maxL none As.length) (hcl : vwCl[ci]? = some (y.cls, T, N)) (ho : KD[o]? = some (.inl ci)) (hrm : rm.cells = mc ∧ rm.slots = ms) (hR : rm.frames + 1 ≤ R.frames ∧ 8 + (maxL + 11) + rm.locals ≤ R.locals) (hc : cells + mc ≤ R.cells ∧ slots + ms ≤ R.slots) (hln : ls.size = nL) (hst : st = As.reverse ++ .ref (ad o) :: rest) (hr8 : (rest.map fun v => v.category).sum ≤ 8) (dg : decode cc pc = .ok (.invokevirtual idx, 3))
    (kk : ∀ (H1 : Heap) (locs1 : List Loc), WS D aC ad A H0 M' H1 locs1 → W p l e R s m args below meth c H1 locs1 (cells + mc) (slots + ms) Q (F0 m (pc + 3) ls rest)) : W p l e R s m args below meth c H locs cells slots Q (F0 m pc ls st) := by
  have hF := AA_sub X w
  have hE := fun av => Ent.at (av := av) X w
  obtain ⟨S, hK, hi, hA⟩ := X
  have hts := S.2.2.2.2
  refine va_callv (va_runV (As := As) (rest := rest) S (hM H.size) ⟨lk_B hts lk.1 hrm hR, hts _ lk.2.1, hts _ lk.2.2⟩ ⟨Ent.blind, va_recv hK w.1 (ci := ci) (q0 := o) hcl ((wl_get (KD_lt ho)).trans (by rw [enc_o ho])), hE _⟩ rfl rfl hln hst (lv_room hr8) dg hc) w.2.1 (fun q _ h => hF q h) hF (fun u t H1 locs1 ht hvm hw hB hz hk hS => ?_)
  rw [ht] at hB
  exact kk H1 locs1 ⟨hB, hS, hw⟩
theorem g_csi (X : CX p s m args c cc nL own D aC ad sg A H0) (w : WS D aC ad A H0 M H locs) (hM : MetI l D aC ad sg y ck maxL ret rm mc ms As M r M') (lk : LkS own idx y ck maxL ret As.length) (hrm : rm.cells = mc ∧ rm.slots = ms) (hR : rm.frames + 1 ≤ R.frames ∧ 8 + (maxL + 11) + rm.locals ≤ R.locals) (hc : cells + mc ≤ R.cells ∧ slots + ms ≤ R.slots) (hln : ls.size = nL) (hst : st = As.reverse ++ rest) (hr8 : (rest.map fun v => v.category).sum ≤ 8) (dg : decode cc pc = .ok (.invokestatic idx, 3))
    (kk : inR r → ∀ (H1 : Heap) (locs1 : List Loc), WS D aC ad A H0 M' H1 locs1 → W p l e R s m args below meth c H1 locs1 (cells + mc) (slots + ms) Q (F0 m (pc + 3) ls (.int (i2 r) :: rest))) : W p l e R s m args below meth c H locs cells slots Q (F0 m pc ls st) := by
  have hF := AA_sub X w
  have hE := fun av => Ent.at (av := av) X w
  obtain ⟨S, hK, hi, hA⟩ := X
  have hts := S.2.2.2.2
  refine va_calli (va_runS (As := As) (rest := rest) S (hM H.size) ⟨lk_B hts lk.1 hrm hR, hts _ lk.2⟩ ⟨Ent.blind, hE _⟩ rfl rfl hln hst (lv_room hr8) dg hc) w.2.1 (fun q _ h => hF q h) hF (fun q u t H1 locs1 ht hvm hw hB hz hk hS => ?_)
  obtain ⟨rfl, h1, h2⟩ := hw
  rw [ht] at hB
  exact kk h1 H1 locs1 ⟨hB, hS, h2⟩
theorem g_csv (X : CX p s m args c cc nL own D aC ad sg A H0) (w : WS D aC ad A H0 M H locs) (hM : MetV l D aC ad sg y ck maxL rm mc ms As M M') (lk : LkS own idx y ck maxL none As.length) (hrm : rm.cells = mc ∧ rm.slots = ms) (hR : rm.frames + 1 ≤ R.frames ∧ 8 + (maxL + 11) + rm.locals ≤ R.locals) (hc : cells + mc ≤ R.cells ∧ slots + ms ≤ R.slots) (hln : ls.size = nL) (hst : st = As.reverse ++ rest) (hr8 : (rest.map fun v => v.category).sum ≤ 8) (dg : decode cc pc = .ok (.invokestatic idx, 3))
    (kk : ∀ (H1 : Heap) (locs1 : List Loc), WS D aC ad A H0 M' H1 locs1 → W p l e R s m args below meth c H1 locs1 (cells + mc) (slots + ms) Q (F0 m (pc + 3) ls rest)) : W p l e R s m args below meth c H locs cells slots Q (F0 m pc ls st) := by
  have hF := AA_sub X w
  have hE := fun av => Ent.at (av := av) X w
  obtain ⟨S, hK, hi, hA⟩ := X
  have hts := S.2.2.2.2
  refine va_callv (va_runS (As := As) (rest := rest) S (hM H.size) ⟨lk_B hts lk.1 hrm hR, hts _ lk.2⟩ ⟨Ent.blind, hE _⟩ rfl rfl hln hst (lv_room hr8) dg hc) w.2.1 (fun q _ h => hF q h) hF (fun u t H1 locs1 ht hvm hw hB hz hk hS => ?_)
  rw [ht] at hB
  exact kk H1 locs1 ⟨hB, hS, hw⟩
theorem g_csn {host : String} (X : CX p s m args c cc nL own D aC ad sg A H0) (w : WS D aC ad A H0 M H locs) (hM : MetI l D aC ad sg y ck maxL ret rm mc ms As M r M') (lk : LkSN own idx y host ck maxL ret As.length) (hrm : rm.cells = mc ∧ rm.slots = ms) (hR : rm.frames + 1 ≤ R.frames ∧ 8 + (maxL + 11) + rm.locals ≤ R.locals) (hc : cells + mc ≤ R.cells ∧ slots + ms ≤ R.slots) (hln : ls.size = nL) (hst : st = As.reverse ++ rest) (hr8 : (rest.map fun v => v.category).sum ≤ 8) (dg : decode cc pc = .ok (.invokestatic idx, 3))
    (kk : inR r → ∀ (H1 : Heap) (locs1 : List Loc), WS D aC ad A H0 M' H1 locs1 → W p l e R s m args below meth c H1 locs1 (cells + mc) (slots + ms) Q (F0 m (pc + 3) ls (.int (i2 r) :: rest))) : W p l e R s m args below meth c H locs cells slots Q (F0 m pc ls st) := by
  have hF := AA_sub X w
  have hE := fun av => Ent.at (av := av) X w
  obtain ⟨S, hK, hi, hA⟩ := X
  have hts := S.2.2.2.2
  obtain ⟨l1, l2, l3, l4, l5⟩ := lk
  have l2' : (Cond.methodLinkNest own idx y host).before args s = true := by rw [l2]; exact va_Nw.use rfl hA.2.2.2.2.2.2
  refine va_calli (va_runSN (As := As) (rest := rest) (host := host) S (hM H.size) ⟨⟨⟨hrm.1, hrm.2, hR.1, hR.2, pay_in hts (good_cons l1), List.mem_cons_self⟩, hts _ l1, hts _ l3, ⟨l4.1, l4.2.1⟩, fun sig h => ?_, l2'⟩, hts _ l5, trivial⟩ ⟨Ent.blind, hE _⟩ rfl rfl hln hst (lv_room hr8) dg hc) w.2.1 (fun q _ h => hF q h) hF (fun q u t H1 locs1 ht hvm hw hB hz hk hS => ?_)
  · have h2 := l4.2.2
    rw [h] at h2
    exact (Option.some.inj h2).symm
  obtain ⟨rfl, h1, h2⟩ := hw
  rw [ht] at hB
  exact kk h1 H1 locs1 ⟨hB, hS, h2⟩
end GCALL
section GENT
variable {l : Launch} {D : va_G} {aC : Nat → ClassId} {ad : Nat → Nat} {sg : SG} {M M' : Mem} {y : MethodName} {cc : ByteArray} {maxL : Nat} {rm : Room} {av : List Value} {r : Int}
theorem MetI.of {ty : FieldType} (P : Int → Prop) (hP : ∀ x, P x → inR x ∧ narrow ty (.int (i2 x)) = .int (i2 x)) (hy : plainName y.cls = true) (hal : (lg_sl av).length ≤ maxL) (hi : Inj ad) (hM : inM M)
    (body : ∀ (p : Program) (e : Env) (s : State) (m : MethodId) (args : Array Value) (below : List Frame) (meth : Method) (c : Code) (Q : State → Prop) (H0 : Heap) (ls : Array Slot), CX p s m args c cc maxL y.cls D aC ad sg (AA ad H0.size) H0 → lv_has ls maxL (lv_args 0 av) → WS D aC ad (AA ad H0.size) H0 M H0 [] →
      (∀ (H : Heap) (locs : List Loc) (pc : Nat) (ls : Array Slot), P r → WS D aC ad (AA ad H0.size) H0 M' H locs → decode cc pc = .ok (.ireturn, 1) → W p l e rm s m args below meth c H locs rm.cells rm.slots Q (F0 m pc ls [.int (i2 r)])) → W p l e rm s m args below meth c H0 [] 0 0 Q (F0 m 0 ls [])) :
    MetI l D aC ad sg y cc maxL (some ty) rm rm.cells rm.slots av M r M' := by
  intro sz
  refine Met.ofW (cc := cc) (maxL := maxL) (ret := some ty) hy rfl ?_
  intro p e s m args below meth c s₁ B hml hv
  obtain ⟨rfl, hsz, hPw, hK, hSt⟩ := hv
  subst hsz
  have hts := atoms_spec (ws := .code y cc maxL (some ty) :: BW) B.pre
  have hown : s.vm.findClass y.cls = some m.cls := findClass_of_methodNamed B.named
  have hlocks := B.notSynchronized
  have hl := lv_entry av (n := maxL) hal
  rw [lg_entry_eq]
  generalize (lg_sl av ++ List.replicate (maxL - (lg_sl av).length) Slot.unset).toArray = ls at hl ⊢
  refine body p e s m _ below meth c _ s.heap ls ⟨⟨B.exec, B.bytes, hml, hown, fun w hw => hts w (List.mem_cons_of_mem _ hw)⟩, hK, hi, fun k hk => Or.inl ⟨k, hk, rfl⟩, fun q h => Or.inr h, rfl, hSt⟩ hl ⟨hPw, va_S.rf, hM⟩ (fun H locs pc ls hr w dg => ?_)
  exact W.zret (v := i2 r) B.exec B.bytes B.returns (hP r hr).2 (fun t ht hW => ⟨⟨i2 r, (), rfl, ⟨rfl, (hP r hr).1, w.2.2⟩, by show va_P _ _ _ t.heap; rw [ht]; exact w.1⟩, w.2.1.F ht⟩) w.2.1.2.2 dg
theorem MetI.ofI (hy : plainName y.cls = true) (hal : (lg_sl av).length ≤ maxL) (hi : Inj ad) (hM : inM M)
    (body : ∀ (p : Program) (e : Env) (s : State) (m : MethodId) (args : Array Value) (below : List Frame) (meth : Method) (c : Code) (Q : State → Prop) (H0 : Heap) (ls : Array Slot), CX p s m args c cc maxL y.cls D aC ad sg (AA ad H0.size) H0 → lv_has ls maxL (lv_args 0 av) → WS D aC ad (AA ad H0.size) H0 M H0 [] →
      (∀ (H : Heap) (locs : List Loc) (pc : Nat) (ls : Array Slot), inR r → WS D aC ad (AA ad H0.size) H0 M' H locs → decode cc pc = .ok (.ireturn, 1) → W p l e rm s m args below meth c H locs rm.cells rm.slots Q (F0 m pc ls [.int (i2 r)])) → W p l e rm s m args below meth c H0 [] 0 0 Q (F0 m 0 ls [])) :
    MetI l D aC ad sg y cc maxL (some .int) rm rm.cells rm.slots av M r M' := MetI.of inR (fun x h => ⟨h, rfl⟩) hy hal hi hM body
abbrev isZ (r : Int) : Prop := r = 0 ∨ r = 1
theorem isZ.inR {r : Int} (h : isZ r) : inR r := by rcases h with rfl | rfl <;> exact ⟨by decide, by decide⟩
theorem MetI.ofZ (hy : plainName y.cls = true) (hal : (lg_sl av).length ≤ maxL) (hi : Inj ad) (hM : inM M)
    (body : ∀ (p : Program) (e : Env) (s : State) (m : MethodId) (args : Array Value) (below : List Frame) (meth : Method) (c : Code) (Q : State → Prop) (H0 : Heap) (ls : Array Slot), CX p s m args c cc maxL y.cls D aC ad sg (AA ad H0.size) H0 → lv_has ls maxL (lv_args 0 av) → WS D aC ad (AA ad H0.size) H0 M H0 [] →
      (∀ (H : Heap) (locs : List Loc) (pc : Nat) (ls : Array Slot), isZ r → WS D aC ad (AA ad H0.size) H0 M' H locs → decode cc pc = .ok (.ireturn, 1) → W p l e rm s m args below meth c H locs rm.cells rm.slots Q (F0 m pc ls [.int (i2 r)])) → W p l e rm s m args below meth c H0 [] 0 0 Q (F0 m 0 ls [])) :
    MetI l D aC ad sg y cc maxL (some .boolean) rm rm.cells rm.slots av M r M' := MetI.of isZ (fun x h => ⟨h.inR, (i2_bool h).1⟩) hy hal hi hM body
theorem MetV.of (hy : plainName y.cls = true) (hal : (lg_sl av).length ≤ maxL) (hi : Inj ad) (hM : inM M)
    (body : ∀ (p : Program) (e : Env) (s : State) (m : MethodId) (args : Array Value) (below : List Frame) (meth : Method) (c : Code) (Q : State → Prop) (H0 : Heap) (ls : Array Slot), CX p s m args c cc maxL y.cls D aC ad sg (AA ad H0.size) H0 → lv_has ls maxL (lv_args 0 av) → WS D aC ad (AA ad H0.size) H0 M H0 [] →
      (∀ (H : Heap) (locs : List Loc) (pc : Nat) (ls : Array Slot), WS D aC ad (AA ad H0.size) H0 M' H locs → decode cc pc = .ok (.return_, 1) → W p l e rm s m args below meth c H locs rm.cells rm.slots Q (F0 m pc ls [])) → W p l e rm s m args below meth c H0 [] 0 0 Q (F0 m 0 ls [])) :
    MetV l D aC ad sg y cc maxL rm rm.cells rm.slots av M M' := by
  intro sz
  refine Met.ofW (cc := cc) (maxL := maxL) (ret := none) hy rfl ?_
  intro p e s m args below meth c s₁ B hml hv
  obtain ⟨rfl, hsz, hPw, hK, hSt⟩ := hv
  subst hsz
  have hts := atoms_spec (ws := .code y cc maxL none :: BW) B.pre
  have hown : s.vm.findClass y.cls = some m.cls := findClass_of_methodNamed B.named
  have hlocks := B.notSynchronized
  have hl := lv_entry av (n := maxL) hal
  rw [lg_entry_eq]
  generalize (lg_sl av ++ List.replicate (maxL - (lg_sl av).length) Slot.unset).toArray = ls at hl ⊢
  refine body p e s m _ below meth c _ s.heap ls ⟨⟨B.exec, B.bytes, hml, hown, fun w hw => hts w (List.mem_cons_of_mem _ hw)⟩, hK, hi, fun k hk => Or.inl ⟨k, hk, rfl⟩, fun q h => Or.inr h, rfl, hSt⟩ hl ⟨hPw, va_S.rf, hM⟩ (fun H locs pc ls w dg => ?_)
  exact W.vret B.exec B.bytes B.returns (fun t ht hW => ⟨⟨(), rfl, w.2.2, by show va_P _ _ _ t.heap; rw [ht]; exact w.1⟩, w.2.1.F ht⟩) w.2.1.2.2 dg
end GENT
section GOPS2
variable {p : Program} {l : Launch} {e : Env} {R : Room} {s : State} {m : MethodId} {args : Array Value} {below : List Frame} {meth : Method} {c : Code} {H : Heap} {locs : List Loc} {cells slots : Nat} {Q : State → Prop}
variable {cc : ByteArray} {nL : Nat} {own : String} {D : va_G} {aC : Nat → ClassId} {ad : Nat → Nat} {sg : SG} {A : Nat → Prop} {H0 : Heap} {M : Mem} {pc : Nat} {ls : Array Slot} {rest : List Value}
theorem g_ist {i : Nat} {x v : Int} {lv lv' : List (Nat × Value)} (X : CX p s m args c cc nL own D aC ad sg A H0) (ev : v = x) (dg : decode cc pc = .ok (.istore i, 2)) (h : lv_has ls nL lv) (hn : i < nL) (hl : (i, Value.int (i2 v)) :: lv.filter (fun q => !(q.1 == i) && !(q.1 + 1 == i && q.2.category == 2)) = lv') (kk : ∀ ls' : Array Slot, lv_has ls' nL lv' → W p l e R s m args below meth c H locs cells slots Q (F0 m (pc + 2) ls' rest)) : W p l e R s m args below meth c H locs cells slots Q (F0 m pc ls (.int (i2 x) :: rest)) := by
  subst ev; exact lv_istore X.1.1 X.1.2.1 dg h hn hl kk
theorem g_istn {k : Fin 4} {i : Nat} {x v : Int} {lv lv' : List (Nat × Value)} (X : CX p s m args c cc nL own D aC ad sg A H0) (ev : v = x) (dg : decode cc pc = .ok (.istore_n k, 1)) (hi : (k : Nat) = i) (h : lv_has ls nL lv) (hn : i < nL) (hl : (i, Value.int (i2 v)) :: lv.filter (fun q => !(q.1 == i) && !(q.1 + 1 == i && q.2.category == 2)) = lv') (kk : ∀ ls' : Array Slot, lv_has ls' nL lv' → W p l e R s m args below meth c H locs cells slots Q (F0 m (pc + 1) ls' rest)) : W p l e R s m args below meth c H locs cells slots Q (F0 m pc ls (.int (i2 x) :: rest)) := by
  subst ev; exact lv_istore_n X.1.1 X.1.2.1 dg hi h hn hl kk
theorem g_tout {dflt lo hi : Int} {offs : Array Int} {len : Nat} {x : Int} {tgt : Nat} (X : CX p s m args c cc nL own D aC ad sg A H0) (hr : inR x) (h : x < lo ∨ hi < x) (dg : decode cc pc = .ok (.tableswitch dflt lo hi offs, len)) (ht : (pc : Int) + dflt = (tgt : Int)) (kk : W p l e R s m args below meth c H locs cells slots Q (F0 m tgt ls rest)) : W p l e R s m args below meth c H locs cells slots Q (F0 m pc ls (.int (i2 x) :: rest)) :=
  lv_tableOut X.1.1 X.1.2.1 dg (by rw [i2_toInt hr]; exact h) ht kk
theorem g_tin {dflt lo hi : Int} {offs : Array Int} {len : Nat} {x k off : Int} {tgt : Nat} (X : CX p s m args c cc nL own D aC ad sg A H0) (hk : x = k) (hr : inR x) (h1 : ¬ k < lo) (h2 : ¬ hi < k) (ho : offs[(k - lo).toNat]? = some off) (dg : decode cc pc = .ok (.tableswitch dflt lo hi offs, len)) (ht : (pc : Int) + off = (tgt : Int)) (kk : W p l e R s m args below meth c H locs cells slots Q (F0 m tgt ls rest)) : W p l e R s m args below meth c H locs cells slots Q (F0 m pc ls (.int (i2 x) :: rest)) := by
  subst hk
  exact lv_tableIn X.1.1 X.1.2.1 dg (by rw [i2_toInt hr]; exact h1) (by rw [i2_toInt hr]; exact h2) (by rw [i2_toInt hr]; exact ho) ht kk
theorem g_ldcs {i idx : Nat} (X : CX p s m args c cc nL own D aC ad sg A H0) (hi : i < NS) (ho : sOwn.getD i "" = own) (hx : sIdx.getD i 0 = idx) (dg : decode cc pc = .ok (.ldc idx, 2)) (kk : W p l e R s m args below meth c H locs cells slots Q (F0 m (pc + 2) ls (.ref (sg.1 i) :: rest))) : W p l e R s m args below meth c H locs cells slots Q (F0 m pc ls rest) := by
  have h := (X.2.2.2.2.2.2.1 i hi).2.2.2.2
  rw [ho, hx] at h
  exact va_ldcS X.1.1 X.1.2.1 X.1.2.2.2.1 h dg kk
theorem ldcWStr {T : State} (X : Stand p l e R s m args below meth c T locs cells slots) (hexec : p.tables.exec = Jvm.exec) {own text : String} {index : Nat} {a : Addr} (hown : s.vm.findClass own = some m.cls)
    (hconst : (Cond.stringRef own index text).before args s = true) (hev : (Term.string own index).eval args s none [] s = some (.ref a)) {g : JFrame} (hg : g.method = m) (hdg : decode c.code g.pc = .ok (.ldc_w index, 3)) :
    ∀ target, Steps p.tables e below (T.setTop { g with pc := g.pc + 3, stack := .ref a :: g.stack }) target → Steps p.tables e below (T.setTop g) target := by
  obtain ⟨k, cf, i, a', hk, hcf, hcp, -, hr, hev'⟩ := Cond.stringRef_spec hown hconst
  cases hev.symm.trans hev'
  obtain ⟨k', hk', he⟩ := X.warmed.alike.2.2 _ _ hk
  have hr' : k'.resolved[index]? = some (some (.string a)) := by
    rcases X.warmed.entry hk hk' index with h | ⟨h, -⟩
    · rw [h]; exact hr
    · rw [hr] at h; cases h
  intro target hrest
  subst hg
  jvm_step X.here [hexec, hdg, ldc_w.wp_string (e := e) (s := T) (f := g) X.here.top hk' (by rw [he]; exact hcf) hcp hr']
  exact hrest
theorem g_ldcsw {i idx : Nat} (X : CX p s m args c cc nL own D aC ad sg A H0) (hi : i < NS) (ho : sOwn.getD i "" = own) (hx : sIdx.getD i 0 = idx) (dg : decode cc pc = .ok (.ldc_w idx, 3)) (kk : W p l e R s m args below meth c H locs cells slots Q (F0 m (pc + 3) ls (.ref (sg.1 i) :: rest))) : W p l e R s m args below meth c H locs cells slots Q (F0 m pc ls rest) := by
  have h := (X.2.2.2.2.2.2.1 i hi).2.2.2.2
  rw [ho, hx] at h
  intro T hT Y
  obtain ⟨t, a, b⟩ := kk T hT Y
  exact ⟨t, ldcWStr Y X.1.1 X.1.2.2.2.1 h.1 h.2 (g := F0 m pc ls rest) rfl (by rw [X.1.2.1]; exact dg) t a, b⟩
def mcp (M : Mem) (a : Nat) (sp : Int) (b : Nat) (dp n : Int) : Mem := fun c' i => if c' = b ∧ dp.toNat ≤ i ∧ i < dp.toNat + n.toNat then M a (sp.toNat + (i - dp.toNat)) else M c' i
theorem inM.cp {M : Mem} (h : inM M) {a b : Nat} {sp dp n : Int} : inM (mcp M a sp b dp n) := by
  intro c i
  unfold mcp
  split <;> exact h _ _
theorem g_copy {a b n0 n1 idx : Nat} {sp dp n : Int} (X : CX p s m args c cc nL own D aC ad sg A H0) (w : WS D aC ad A H0 M H locs) (ha : KD[a]? = some (.inr (0, n0))) (hb2 : KD[b]? = some (.inr (0, n1))) (h1 : inR sp) (h2 : inR dp) (h3 : inR n) (hin : 0 ≤ sp ∧ 0 ≤ dp ∧ 0 ≤ n ∧ sp + n ≤ (n0 : Int) ∧ dp + n ≤ (n1 : Int)) (hln : ls.size = nL) (hw : Cond.methodLink own idx arraycopyName ∈ BW ∧ Cond.native arraycopyName ∈ BW ∧ Cond.static arraycopyName ∈ BW ∧ Cond.initialized "java/lang/System" ∈ BW) (hR : 1 ≤ R.frames ∧ 60 ≤ R.locals) (hr8 : (rest.map fun v => v.category).sum ≤ 8) (dg : decode cc pc = .ok (.invokestatic idx, 3))
    (kk : ∀ (H1 : Heap) (locs1 : List Loc), WS D aC ad A H0 (mcp M a sp b dp n) H1 locs1 → W p l e R s m args below meth c H1 locs1 cells slots Q (F0 m (pc + 3) ls rest)) : W p l e R s m args below meth c H locs cells slots Q (F0 m pc ls (.int (i2 n) :: .int (i2 dp) :: .ref (ad b) :: .int (i2 sp) :: .ref (ad a) :: rest)) := by
  obtain ⟨⟨hx, hb, hml, hown, hts⟩, hK, hi, hA, hA2, hSt⟩ := X
  have e0 : (0 : Int32) = i2 0 := rfl
  have r0 : inR 0 := ⟨by decide, by decide⟩
  have hnw : nativeFrameWords "java/lang/System" "arraycopy" 5 + 11 ≤ 52 := by decide +kernel
  refine va_copyi hx hb (hml.trans hln.symm) hown (hts _ hw.1) (hts _ hw.2.1) (hts _ hw.2.2.1) (hts _ hw.2.2.2) hK w.1 (wl_D hi hA) w.2.1 a b 0 0 ((wl_get (KD_lt ha)).trans (by rw [enc_a ha (by decide)])) ((wl_get (KD_lt hb2)).trans (by rw [enc_a hb2 (by decide)])) rfl rfl rfl (sp := i2 sp) (dp := i2 dp) (n := i2 n) (by rw [e0, i2_lt h1 r0]; omega) (by rw [e0, i2_lt h2 r0]; omega) (by rw [e0, i2_lt h3 r0]; omega) (by rw [i2_clamp h1, i2_clamp h3]; omega) (by rw [i2_clamp h2, i2_clamp h3]; omega) (fun i _ => rfl) hR.1 (Nat.le_trans (Nat.add_le_add hr8 hnw) (by omega)) dg (fun H1 locs1 hP hD hS => kk H1 locs1 ⟨?_, hS, w.2.2.cp⟩)
  rw [wl_set (M' := mcp M a sp b dp n) (KD_lt hb2) (fun c' hc j => by unfold mcp; rw [if_neg (fun q => hc q.1)])] at hP
  · exact hP
  · rw [enc_a hb2 (by decide)]
    congr 4
    funext j
    unfold va_cpy mcp
    rw [i2_clamp h1, i2_clamp h2, i2_clamp h3]
    by_cases hj : dp.toNat ≤ j ∧ j < dp.toNat + n.toNat
    · rw [if_pos hj, if_pos ⟨rfl, hj⟩]
    · rw [if_neg hj, if_neg (fun q => hj q.2)]
theorem str_lt {r : Int} (h : 0 ≤ r ∧ r < 27) : r.toNat < NS := by unfold NS; omega
end GOPS2
/-- a method that answers with one of the String constants -/
def MetT (l : Launch) (D : va_G) (aC : Nat → ClassId) (ad : Nat → Nat) (sg : SG) (y : MethodName) (cc : ByteArray) (maxL : Nat) (rm : Room) (mc ms : Nat) (av : List Value) (M : Mem) (r : Int) : Prop := ∀ sz : Nat, Met l y (.code y cc maxL (some (.object "java/lang/String")) :: BW) rm (va_Pc av (Ent D aC ad sg M sz)) (va_Qr (fun (_ : Unit) => (0 ≤ r ∧ r < 27) ∧ inM M) (fun _ a t => a = sg.1 r.toNat ∧ va_P D vwCl (wl aC ad M) t.heap) (AA ad sz)) mc ms (AA ad sz)
theorem MetT.of {l : Launch} {D : va_G} {aC : Nat → ClassId} {ad : Nat → Nat} {sg : SG} {M : Mem} {y : MethodName} {cc : ByteArray} {maxL : Nat} {rm : Room} {av : List Value} {r : Int} (hy : plainName y.cls = true) (hal : (lg_sl av).length ≤ maxL) (hi : Inj ad) (hM : inM M)
    (body : ∀ (p : Program) (e : Env) (s : State) (m : MethodId) (args : Array Value) (below : List Frame) (meth : Method) (c : Code) (Q : State → Prop) (H0 : Heap) (ls : Array Slot), CX p s m args c cc maxL y.cls D aC ad sg (AA ad H0.size) H0 → lv_has ls maxL (lv_args 0 av) → WS D aC ad (AA ad H0.size) H0 M H0 [] →
      (∀ (H : Heap) (locs : List Loc) (pc : Nat) (ls : Array Slot), (0 ≤ r ∧ r < 27) → WS D aC ad (AA ad H0.size) H0 M H locs → decode cc pc = .ok (.areturn, 1) → W p l e rm s m args below meth c H locs rm.cells rm.slots Q (F0 m pc ls [.ref (sg.1 r.toNat)])) → W p l e rm s m args below meth c H0 [] 0 0 Q (F0 m 0 ls [])) :
    MetT l D aC ad sg y cc maxL rm rm.cells rm.slots av M r := by
  intro sz
  refine Met.ofW (cc := cc) (maxL := maxL) (ret := some (.object "java/lang/String")) hy rfl ?_
  intro p e s m args below meth c s₁ B hml hv
  obtain ⟨rfl, hsz, hPw, hK, hSt⟩ := hv
  subst hsz
  have hts := atoms_spec (ws := .code y cc maxL (some (.object "java/lang/String")) :: BW) B.pre
  have hown : s.vm.findClass y.cls = some m.cls := findClass_of_methodNamed B.named
  have hlocks := B.notSynchronized
  have hl := lv_entry av (n := maxL) hal
  rw [lg_entry_eq]
  generalize (lg_sl av ++ List.replicate (maxL - (lg_sl av).length) Slot.unset).toArray = ls at hl ⊢
  refine body p e s m _ below meth c _ s.heap ls ⟨⟨B.exec, B.bytes, hml, hown, fun w hw => hts w (List.mem_cons_of_mem _ hw)⟩, hK, hi, fun k hk => Or.inl ⟨k, hk, rfl⟩, fun q h => Or.inr h, rfl, hSt⟩ hl ⟨hPw, va_S.rf, hM⟩ (fun H locs pc ls hr w dg => ?_)
  exact W.aret (rt := .object "java/lang/String") B.exec B.bytes B.returns (Or.inl ⟨_, rfl⟩) (Or.inr ⟨_, rfl⟩) (fun t ht hW => ⟨⟨(), _, rfl, ⟨hr, w.2.2⟩, rfl, by rw [ht]; exact w.1⟩, w.2.1.F ht⟩) w.2.1.2.2 dg
section GCT
variable {p : Program} {l : Launch} {e : Env} {R : Room} {s : State} {m : MethodId} {args : Array Value} {below : List Frame} {meth : Method} {c : Code} {H : Heap} {locs : List Loc} {cells slots : Nat} {Q : State → Prop}
variable {cc : ByteArray} {nL : Nat} {own : String} {D : va_G} {aC : Nat → ClassId} {ad : Nat → Nat} {sg : SG} {A : Nat → Prop} {H0 : Heap} {M M' : Mem} {pc : Nat} {ls : Array Slot} {rest : List Value}
variable {idx maxL mc ms n : Nat} {y : MethodName} {ck : ByteArray} {rm : Room} {As st : List Value} {r : Int}
theorem g_cst (X : CX p s m args c cc nL own D aC ad sg A H0) (w : WS D aC ad A H0 M H locs) (hM : MetT l D aC ad sg y ck maxL rm mc ms As M r) (lk : LkS own idx y ck maxL (some (.object "java/lang/String")) As.length) (hrm : rm.cells = mc ∧ rm.slots = ms) (hR : rm.frames + 1 ≤ R.frames ∧ 8 + (maxL + 11) + rm.locals ≤ R.locals) (hc : cells + mc ≤ R.cells ∧ slots + ms ≤ R.slots) (hln : ls.size = nL) (hst : st = As.reverse ++ rest) (hr8 : (rest.map fun v => v.category).sum ≤ 8) (dg : decode cc pc = .ok (.invokestatic idx, 3))
    (kk : (0 ≤ r ∧ r < 27) → ∀ (H1 : Heap) (locs1 : List Loc), WS D aC ad A H0 M H1 locs1 → W p l e R s m args below meth c H1 locs1 (cells + mc) (slots + ms) Q (F0 m (pc + 3) ls (.ref (sg.1 r.toNat) :: rest))) : W p l e R s m args below meth c H locs cells slots Q (F0 m pc ls st) := by
  have hF := AA_sub X w
  have hE := fun av => Ent.at (av := av) X w
  obtain ⟨S, hK, hi, hA⟩ := X
  have hts := S.2.2.2.2
  refine va_callr (va_runS (As := As) (rest := rest) S (hM H.size) ⟨lk_B hts lk.1 hrm hR, hts _ lk.2⟩ ⟨Ent.blind, hE _⟩ rfl rfl hln hst (lv_room hr8) dg hc) w.2.1 (fun q _ h => hF q h) hF (fun u a t H1 locs1 ht hvm hw hB hz hk hS => ?_)
  obtain ⟨rfl, hB⟩ := hB
  rw [ht] at hB
  exact kk hw.1 H1 locs1 ⟨hB, hS, hw.2⟩
end GCT
