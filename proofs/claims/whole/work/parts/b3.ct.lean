/-! while the objects are made: a world of some cells, in a row -/
def NWs (U : State) : Prop := va_Nw (.methodLinkNest RX10 18 yX5_init "ClassMaker") U ∧ va_Nw (.methodLinkNest RX10 25 yX9_init "ClassMaker") U ∧ va_Nw (.methodLinkNest RX10 66 yX3_init "ClassMaker") U ∧ va_Nw (.methodLinkNest RX10 93 yX7_init "ClassMaker") U
theorem NWs.warm {s U : State} (hW : s.WarmedH U.vm) (h : NWs s) : NWs U := ⟨va_Nw.warmM hW h.1, va_Nw.warmM hW h.2.1, va_Nw.warmM hW h.2.2.1, va_Nw.warmM hW h.2.2.2⟩
theorem NWs.same {u U : State} (h : u.vm = U.vm) (hN : NWs u) : NWs U := ⟨va_Nw.same rfl h hN.1, va_Nw.same rfl h hN.2.1, va_Nw.same rfl h hN.2.2.1, va_Nw.same rfl h hN.2.2.2⟩
def EntN (D : va_G) (aC : Nat → ClassId) (h0 : Nat) (e0 : va_E) (sz : Nat) : State → Prop := fun U => U.heap.size = sz ∧ va_P D vwCl [(h0, e0)] U.heap ∧ va_K D vwCl (tysL aC) U ∧ NWs U
/-- a constructor: its object stands alone before; behind it all that it makes, at addresses u -/
def MetN (l : Launch) (D : va_G) (aC : Nat → ClassId) (S : Type) (y : MethodName) (cc : ByteArray) (maxL : Nat) (rm : Room) (mc ms : Nat) (h0 : Nat) (e0 : va_E) (As : List Value) (wf : S → va_W) : Prop := ∀ sz : Nat, Met l y (.code y cc maxL none :: BW) rm (va_Pc (.ref h0 :: As) (EntN D aC h0 e0 sz)) (va_Qv (fun _ : S => True) (fun u t => va_P D vwCl (wf u) t.heap ∧ va_D (va_A [(h0, e0)] sz) (wf u)) (va_A [(h0, e0)] sz)) mc ms (va_A [(h0, e0)] sz)
theorem EntN.blind {D : va_G} {aC : Nat → ClassId} {h0 : Nat} {e0 : va_E} {av : List Value} {sz : Nat} : FrameBlind (va_Pc av (EntN D aC h0 e0 sz)) := fun a U g mk q => by
  obtain ⟨q0, q1, qP, qK, qN⟩ := q
  exact ⟨q0, q1, qP, va_K.moved (u := U) (U := U.calling g mk a) (Vm.Alike.refl U.vm) qK, NWs.same (u := U) rfl qN⟩
theorem one_get {x : Nat × va_E} {k : Nat} {q : Nat × va_E} (h : ([x] : va_W)[k]? = some q) : k = 0 ∧ q = x := by
  have hk := (List.getElem?_eq_some_iff.mp h).1
  have e1 : ([x] : va_W).length = 1 := rfl
  have e2 : k = 0 := by omega
  subst e2
  exact ⟨rfl, (Option.some.inj h).symm⟩
theorem one_D {x : Nat × va_E} {A : Nat → Prop} (h : A x.1) : va_D A [x] := ⟨fun i j p q hp hq _ => by rw [(one_get hp).1, (one_get hq).1], fun k q hk => by rw [(one_get hk).2]; exact h⟩
/-- a callee that changed one cell, in its place -/
theorem wj_at {D : va_G} {cl : List vw_C} {A : Nat → Prop} {ws : va_W} {k0 a : Nat} {e0 e1 : va_E} {H H1 : Heap} (hP : va_P D cl ws H) (hD : va_D A ws) (hp : ws[k0]? = some (a, e0)) (hk : ∀ q : Nat, q < H.size → ¬ va_A [(a, e0)] H.size q → H1[q]? = H[q]?) (hP1 : va_P D cl [(a, e1)] H1) : va_P D cl (ws.set k0 (a, e1)) H1 ∧ va_D A (ws.set k0 (a, e1)) := by
  refine ⟨fun k q hq => ?_, hD.set hp⟩
  by_cases hkp : k = k0
  · subst hkp
    rw [List.getElem?_set_self (List.getElem?_eq_some_iff.mp hp).1] at hq
    cases hq
    exact hP1 0 _ rfl
  · rw [List.getElem?_set_ne (Ne.symm hkp)] at hq
    have h := hP k q hq
    refine h.kept (hk q.1 h.lt ?_)
    rintro (⟨k2, e, h2⟩ | h2)
    · have h3 : q.1 = a := congrArg Prod.fst (one_get h2).2
      exact hkp (hD.1 k k0 q (a, e0) hq hp h3)
    · exact absurd h.lt (by omega)
/-- a callee that was given the last cell, and made more -/
theorem wj_end {D : va_G} {cl : List vw_C} {A0 : Nat → Prop} {w0 w1 : va_W} {x : Nat × va_E} {H H1 : Heap} (hP : va_P D cl (w0 ++ [x]) H) (hD : va_D A0 (w0 ++ [x])) (hk : ∀ q : Nat, q < H.size → ¬ va_A [x] H.size q → H1[q]? = H[q]?) (hF : ∀ q, va_A [x] H.size q → A0 q) (hP1 : va_P D cl w1 H1) (hD1 : va_D (va_A [x] H.size) w1) : va_P D cl (w0 ++ w1) H1 ∧ va_D A0 (w0 ++ w1) := by
  have g : ∀ (k : Nat) (q : Nat × va_E), w0[k]? = some q → (w0 ++ [x])[k]? = some q := fun k q h => by rw [List.getElem?_append_left (List.getElem?_eq_some_iff.mp h).1]; exact h
  have gx : (w0 ++ [x])[w0.length]? = some x := by rw [List.getElem?_append_right (Nat.le_refl _), Nat.sub_self]; rfl
  have apart : ∀ (k : Nat) (q : Nat × va_E), w0[k]? = some q → q.1 < H.size ∧ ¬ va_A [x] H.size q.1 := by
    intro k q hq
    have hl := (hP k q (g k q hq)).lt
    refine ⟨hl, ?_⟩
    rintro (⟨k2, e, h⟩ | h)
    · have h3 : q.1 = x.1 := by rw [← (one_get h).2]
      have h4 := hD.1 k w0.length q x (g k q hq) gx h3
      have h5 := (List.getElem?_eq_some_iff.mp hq).1
      omega
    · omega
  refine ⟨va_P.app (fun k q hq => (hP k q (g k q hq)).kept (hk q.1 (apart k q hq).1 (apart k q hq).2)) hP1, va_D.app ⟨fun i j a b ha hb e => hD.1 i j a b (g i a ha) (g j b hb) e, fun k q hq => hD.2 k q (g k q hq)⟩ (hD1.weaken (fun k q _ h => hF q.1 h)) (fun i j a b ha hb e => ?_)⟩
  exact (apart i a ha).2 (by rw [e]; exact hD1.2 j b hb)
abbrev CN (p : Program) (s : State) (m : MethodId) (args : Array Value) (c : Code) (cc : ByteArray) (nL : Nat) (own : String) (D : va_G) (aC : Nat → ClassId) (A : Nat → Prop) (H0 : Heap) : Prop := CallFix p m c cc nL s args BW own ∧ va_K D vwCl (tysL aC) s ∧ (∀ q, H0.size ≤ q → A q) ∧ NWs s
def WN (D : va_G) (A : Nat → Prop) (H0 : Heap) (ws : va_W) (H : Heap) (locs : List Loc) : Prop := va_P D vwCl ws H ∧ va_D A ws ∧ va_S A H0 H locs
def FldF (own : String) (idx ci k : Nat) (ty : FieldType) : Prop := ∃ (C : String) (T : u_T) (N : Nat) (ty0 : Nat → FieldType), vwCl[ci]? = some (C, T, N) ∧ k < N ∧ (T k).1 = C ∧ C = own ∧ (∀ w ∈ u_ws C T N, w ∈ BW) ∧ Cond.fieldLink own idx C (T k).2.1 (T k).2.2.1 ∈ BW ∧ (∀ k, k < N → parseFieldDescriptor (T k).2.2.1 = some (ty0 k)) ∧ (∀ a, a < N → ∀ b, b < N → a ≠ b → (T a).2.1 ≠ (T b).2.1) ∧ (T k).2.2.2 = true ∧ parseFieldDescriptor (T k).2.2.1 = some ty
def LkI (own : String) (idx : Nat) (y : MethodName) (cc : ByteArray) (maxL : Nat) (n : Nat) : Prop := LkB own idx y cc maxL none n ∧ y.name = "<init>" ∧ Cond.instanceMethod y ∈ BW
def LkIN (y : MethodName) (cc : ByteArray) (maxL : Nat) (n : Nat) : Prop := Cond.code y cc maxL none ∈ BW ∧ Cond.initialized y.cls ∈ BW ∧ (y.cls ≠ "java/lang/invoke/MethodHandle" ∧ y.cls ≠ "java/lang/invoke/VarHandle" ∧ (parseMethodDescriptor y.desc).map (fun d => d.parameters.length) = some n) ∧ y.name = "<init>" ∧ Cond.instanceMethod y ∈ BW
def arC (q : Nat) (cA : ClassId) (n : Nat) (v : Int) : Nat × va_E := (q, .inl (cA, (n, .inl fun _ => i2 v)))
section NROWS
variable {p : Program} {l : Launch} {e : Env} {R : Room} {s : State} {m : MethodId} {args : Array Value} {below : List Frame} {meth : Method} {c : Code} {H : Heap} {locs : List Loc} {cells slots : Nat} {Q : State → Prop}
variable {cc : ByteArray} {nL : Nat} {own : String} {D : va_G} {aC : Nat → ClassId} {A : Nat → Prop} {H0 : Heap} {ws w0 : va_W} {pc : Nat} {ls : Array Slot} {rest : List Value}
variable {idx maxL mc ms n : Nat} {y : MethodName} {ck : ByteArray} {rm : Room} {As st : List Value}
theorem nz_iconst (X : CN p s m args c cc nL own D aC A H0) {n : Int} (dg : decode cc pc = .ok (.iconst n, 1)) (kk : W p l e R s m args below meth c H locs cells slots Q (F0 m (pc + 1) ls (.int (i2 n) :: rest))) : W p l e R s m args below meth c H locs cells slots Q (F0 m pc ls rest) := lv_iconst X.1.1 X.1.2.1 dg rfl kk
theorem nz_bipush (X : CN p s m args c cc nL own D aC A H0) {n : Int} (dg : decode cc pc = .ok (.bipush n, 2)) (h : -128 ≤ n ∧ n < 128) (kk : W p l e R s m args below meth c H locs cells slots Q (F0 m (pc + 2) ls (.int (i2 n) :: rest))) : W p l e R s m args below meth c H locs cells slots Q (F0 m pc ls rest) := lv_bipush X.1.1 X.1.2.1 dg (i2_lit h) kk
theorem nz_sipush (X : CN p s m args c cc nL own D aC A H0) {n : Int} (dg : decode cc pc = .ok (.sipush n, 3)) (h : -32768 ≤ n ∧ n < 32768) (kk : W p l e R s m args below meth c H locs cells slots Q (F0 m (pc + 3) ls (.int (i2 n) :: rest))) : W p l e R s m args below meth c H locs cells slots Q (F0 m pc ls rest) := lv_sipush X.1.1 X.1.2.1 dg (i2_lit16 h) kk
theorem nz_new_int (X : CN p s m args c cc nL own D aC A H0) (w : WN D A H0 ws H locs) (harr : Cond.arrayClass .int ∈ BW) (h0 : 0 < n ∧ n ≤ 10000) (hcells : cells + 1 ≤ R.cells) (hslots : slots + n ≤ R.slots) (dg : decode cc pc = .ok (.newarray .int, 2))
    (kk : ∀ (q : Nat) (H1 : Heap), WN D A H0 (ws ++ [arC q (aC 0) n 0]) H1 locs → W p l e R s m args below meth c H1 locs (cells + 1) (slots + n) Q (F0 m (pc + 2) ls (.ref q :: rest))) : W p l e R s m args below meth c H locs cells slots Q (F0 m pc ls (.int (i2 (n : Int)) :: rest)) := by
  obtain ⟨⟨hx, hb, hml, hown, hts⟩, hK, hA, hN⟩ := X
  have hr : inR (n : Int) := ⟨by omega, by omega⟩
  have e0 : (0 : Int32) = i2 0 := rfl
  refine va_newa (atype := .int) (ty := .int) (a0 := (n, .inl (fun _ => i2 0))) hx hb (hts _ harr) rfl hK w.1 w.2.1 w.2.2 hA (fun cA => ?_) (by rw [e0, i2_lt hr ⟨by decide, by decide⟩]; omega) (by rw [i2_clamp hr]; omega) (by show n * componentBytes .int ≤ _; have e8 : componentBytes .int = 4 := rfl; rw [e8]; omega) hcells hslots dg (fun q cA H1 hK2 hP hD hS => ?_)
  · rw [vp_cell_i]; rfl
  · have e1 := (hK2.2 5 _ (show (tysL aC ++ [(cA, FieldType.int)])[5]? = some (cA, .int) from rfl)).2
    have e2 := (hK.2 0 _ (show (tysL aC)[0]? = some (aC 0, .int) from rfl)).2
    have e3 : aC 0 = cA := Option.some.inj ((show s.vm.findClass _ = some (aC 0) from e2).symm.trans (show s.vm.findClass _ = some cA from e1))
    subst e3
    exact kk q H1 ⟨hP, hD, hS⟩
theorem nz_new_boolean (X : CN p s m args c cc nL own D aC A H0) (w : WN D A H0 ws H locs) (harr : Cond.arrayClass .boolean ∈ BW) (h0 : 0 < n ∧ n ≤ 10000) (hcells : cells + 1 ≤ R.cells) (hslots : slots + n ≤ R.slots) (dg : decode cc pc = .ok (.newarray .boolean, 2))
    (kk : ∀ (q : Nat) (H1 : Heap), WN D A H0 (ws ++ [arC q (aC 1) n 0]) H1 locs → W p l e R s m args below meth c H1 locs (cells + 1) (slots + n) Q (F0 m (pc + 2) ls (.ref q :: rest))) : W p l e R s m args below meth c H locs cells slots Q (F0 m pc ls (.int (i2 (n : Int)) :: rest)) := by
  obtain ⟨⟨hx, hb, hml, hown, hts⟩, hK, hA, hN⟩ := X
  have hr : inR (n : Int) := ⟨by omega, by omega⟩
  have e0 : (0 : Int32) = i2 0 := rfl
  refine va_newa (atype := .boolean) (ty := .boolean) (a0 := (n, .inl (fun _ => i2 0))) hx hb (hts _ harr) rfl hK w.1 w.2.1 w.2.2 hA (fun cA => ?_) (by rw [e0, i2_lt hr ⟨by decide, by decide⟩]; omega) (by rw [i2_clamp hr]; omega) (by show n * componentBytes .boolean ≤ _; have e8 : componentBytes .boolean = 1 := rfl; rw [e8]; omega) hcells hslots dg (fun q cA H1 hK2 hP hD hS => ?_)
  · rw [vp_cell_i]; rfl
  · have e1 := (hK2.2 5 _ (show (tysL aC ++ [(cA, FieldType.boolean)])[5]? = some (cA, .boolean) from rfl)).2
    have e2 := (hK.2 1 _ (show (tysL aC)[1]? = some (aC 1, .boolean) from rfl)).2
    have e3 : aC 1 = cA := Option.some.inj ((show s.vm.findClass _ = some (aC 1) from e2).symm.trans (show s.vm.findClass _ = some cA from e1))
    subst e3
    exact kk q H1 ⟨hP, hD, hS⟩
theorem nz_new_char (X : CN p s m args c cc nL own D aC A H0) (w : WN D A H0 ws H locs) (harr : Cond.arrayClass .char ∈ BW) (h0 : 0 < n ∧ n ≤ 10000) (hcells : cells + 1 ≤ R.cells) (hslots : slots + n ≤ R.slots) (dg : decode cc pc = .ok (.newarray .char, 2))
    (kk : ∀ (q : Nat) (H1 : Heap), WN D A H0 (ws ++ [arC q (aC 2) n 0]) H1 locs → W p l e R s m args below meth c H1 locs (cells + 1) (slots + n) Q (F0 m (pc + 2) ls (.ref q :: rest))) : W p l e R s m args below meth c H locs cells slots Q (F0 m pc ls (.int (i2 (n : Int)) :: rest)) := by
  obtain ⟨⟨hx, hb, hml, hown, hts⟩, hK, hA, hN⟩ := X
  have hr : inR (n : Int) := ⟨by omega, by omega⟩
  have e0 : (0 : Int32) = i2 0 := rfl
  refine va_newa (atype := .char) (ty := .char) (a0 := (n, .inl (fun _ => i2 0))) hx hb (hts _ harr) rfl hK w.1 w.2.1 w.2.2 hA (fun cA => ?_) (by rw [e0, i2_lt hr ⟨by decide, by decide⟩]; omega) (by rw [i2_clamp hr]; omega) (by show n * componentBytes .char ≤ _; have e8 : componentBytes .char = 2 := rfl; rw [e8]; omega) hcells hslots dg (fun q cA H1 hK2 hP hD hS => ?_)
  · rw [vp_cell_i]; rfl
  · have e1 := (hK2.2 5 _ (show (tysL aC ++ [(cA, FieldType.char)])[5]? = some (cA, .char) from rfl)).2
    have e2 := (hK.2 2 _ (show (tysL aC)[2]? = some (aC 2, .char) from rfl)).2
    have e3 : aC 2 = cA := Option.some.inj ((show s.vm.findClass _ = some (aC 2) from e2).symm.trans (show s.vm.findClass _ = some cA from e1))
    subst e3
    exact kk q H1 ⟨hP, hD, hS⟩
theorem nz_new_byte (X : CN p s m args c cc nL own D aC A H0) (w : WN D A H0 ws H locs) (harr : Cond.arrayClass .byte ∈ BW) (h0 : 0 < n ∧ n ≤ 10000) (hcells : cells + 1 ≤ R.cells) (hslots : slots + n ≤ R.slots) (dg : decode cc pc = .ok (.newarray .byte, 2))
    (kk : ∀ (q : Nat) (H1 : Heap), WN D A H0 (ws ++ [arC q (aC 3) n 0]) H1 locs → W p l e R s m args below meth c H1 locs (cells + 1) (slots + n) Q (F0 m (pc + 2) ls (.ref q :: rest))) : W p l e R s m args below meth c H locs cells slots Q (F0 m pc ls (.int (i2 (n : Int)) :: rest)) := by
  obtain ⟨⟨hx, hb, hml, hown, hts⟩, hK, hA, hN⟩ := X
  have hr : inR (n : Int) := ⟨by omega, by omega⟩
  have e0 : (0 : Int32) = i2 0 := rfl
  refine va_newa (atype := .byte) (ty := .byte) (a0 := (n, .inl (fun _ => i2 0))) hx hb (hts _ harr) rfl hK w.1 w.2.1 w.2.2 hA (fun cA => ?_) (by rw [e0, i2_lt hr ⟨by decide, by decide⟩]; omega) (by rw [i2_clamp hr]; omega) (by show n * componentBytes .byte ≤ _; have e8 : componentBytes .byte = 1 := rfl; rw [e8]; omega) hcells hslots dg (fun q cA H1 hK2 hP hD hS => ?_)
  · rw [vp_cell_i]; rfl
  · have e1 := (hK2.2 5 _ (show (tysL aC ++ [(cA, FieldType.byte)])[5]? = some (cA, .byte) from rfl)).2
    have e2 := (hK.2 3 _ (show (tysL aC)[3]? = some (aC 3, .byte) from rfl)).2
    have e3 : aC 3 = cA := Option.some.inj ((show s.vm.findClass _ = some (aC 3) from e2).symm.trans (show s.vm.findClass _ = some cA from e1))
    subst e3
    exact kk q H1 ⟨hP, hD, hS⟩
theorem nz_new_long (X : CN p s m args c cc nL own D aC A H0) (w : WN D A H0 ws H locs) (harr : Cond.arrayClass .long ∈ BW) (hcells : cells + 1 ≤ R.cells) (hslots : slots + 1 ≤ R.slots) (dg : decode cc pc = .ok (.newarray .long, 2))
    (kk : ∀ (q : Nat) (H1 : Heap), WN D A H0 (ws ++ [(q, .inl (aC 4, (1, .inr (.inl fun _ => Int64.ofInt 0))))]) H1 locs → W p l e R s m args below meth c H1 locs (cells + 1) (slots + 1) Q (F0 m (pc + 2) ls (.ref q :: rest))) : W p l e R s m args below meth c H locs cells slots Q (F0 m pc ls (.int (i2 1) :: rest)) := by
  obtain ⟨⟨hx, hb, hml, hown, hts⟩, hK, hA, hN⟩ := X
  refine va_newa (atype := .long) (ty := .long) (a0 := (1, .inr (.inl (fun _ => Int64.ofInt 0)))) hx hb (hts _ harr) rfl hK w.1 w.2.1 w.2.2 hA (fun cA => ?_) (by decide) (by decide) (by decide) hcells hslots dg (fun q cA H1 hK2 hP hD hS => ?_)
  · rw [vp_cell_l]; rfl
  · have e1 := (hK2.2 5 _ (show (tysL aC ++ [(cA, FieldType.long)])[5]? = some (cA, .long) from rfl)).2
    have e2 := (hK.2 4 _ (show (tysL aC)[4]? = some (aC 4, .long) from rfl)).2
    have e3 : aC 4 = cA := Option.some.inj ((show s.vm.findClass _ = some (aC 4) from e2).symm.trans (show s.vm.findClass _ = some cA from e1))
    subst e3
    exact kk q H1 ⟨hP, hD, hS⟩
theorem nz_new {ci N : Nat} {C : String} {T : u_T} {ty : Nat → FieldType} {fs : List Value} (X : CN p s m args c cc nL own D aC A H0) (w : WN D A H0 ws H locs) (hc : vwCl[ci]? = some (C, T, N)) (hin : ∀ w ∈ u_ws C T N, w ∈ BW) (hty : ∀ k, k < N → parseFieldDescriptor (T k).2.2.1 = some (ty k)) (hfs : ∀ j, j < N → defaultValue (ty j) = vp_V fs j) (hw : Cond.classLink own idx C ∈ BW ∧ Cond.instantiable C N ∈ BW ∧ Cond.initialized C ∈ BW) (hcells : cells + 1 ≤ R.cells) (hslots : slots + N ≤ R.slots) (dg : decode cc pc = .ok (.new idx, 3))
    (kk : ∀ (q : Nat) (H1 : Heap), WN D A H0 (ws ++ [(q, .inr (ci, fs))]) H1 locs → W p l e R s m args below meth c H1 locs (cells + 1) (slots + N) Q (F0 m (pc + 3) ls (.ref q :: rest))) : W p l e R s m args below meth c H locs cells slots Q (F0 m pc ls rest) := by
  obtain ⟨⟨hx, hb, hml, hown, hts⟩, hK, hA, hN⟩ := X
  exact va_new hx hb hts hin ty hty hown (hts _ hw.1) (hts _ hw.2.1) (hts _ hw.2.2) hK w.1 w.2.1 w.2.2 hA hc hfs hcells hslots dg (fun q H1 hP hD hS => kk q H1 ⟨hP, hD, hS⟩)
theorem nz_obj (X : CN p s m args c cc nL own D aC A H0) {a : Nat} (hw : Cond.methodLink own idx objectInit ∈ BW ∧ Cond.instanceMethod objectInit ∈ BW ∧ Cond.code objectInit ⟨#[0xb1]⟩ 1 none ∈ BW) (hln : ls.size = nL) (hR : 1 ≤ R.frames ∧ 20 ≤ R.locals) (dg : decode cc pc = .ok (.invokespecial idx, 3)) (kk : W p l e R s m args below meth c H locs cells slots Q (F0 m (pc + 3) ls [])) : W p l e R s m args below meth c H locs cells slots Q (F0 m pc ls [.ref a]) := by
  obtain ⟨⟨hx, hb, hml, hown, hts⟩, hK, hA, hN⟩ := X
  refine W.objInit hx hb hown (hts _ hw.1) (hts _ hw.2.1) (hts _ hw.2.2) rfl (hln.trans hml.symm) rfl dg hR.1 (Nat.le_trans (Nat.le_of_ble_eq_true rfl) hR.2) ?_
  exact W.eq (g2 := F0 m (pc + 3) ls []) rfl kk
theorem nz_get {a q0 ci k : Nat} {fs : List Value} {v : Value} (X : CN p s m args c cc nL own D aC A H0) (w : WN D A H0 ws H locs) (he : ws[q0]? = some (a, .inr (ci, fs))) (fg : FldG own idx ci k) (hv : fs[k]? = some v) (dg : decode cc pc = .ok (.getfield idx, 3))
    (kk : W p l e R s m args below meth c H locs cells slots Q (F0 m (pc + 3) ls (v :: rest))) : W p l e R s m args below meth c H locs cells slots Q (F0 m pc ls (.ref a :: rest)) := by
  obtain ⟨⟨hx, hb, hml, hown, hts⟩, hK, hA, hN⟩ := X
  obtain ⟨C, T, N, h1, h2, h3, h4, h5⟩ := fg
  exact va_get (C := C) (T := T) (N := N) (ref := C) hx hb hts h4 hown hK w.1 q0 he h1 k h2 (hts _ h5) (fun x hx => by rw [h3] at hx; exact hx) (v := v) hv dg kk
theorem nz_put {a q0 ci k : Nat} {fs : List Value} {ty : FieldType} {v : Value} (X : CN p s m args c cc nL own D aC A H0) (w : WN D A H0 ws H locs) (he : ws[q0]? = some (a, .inr (ci, fs))) (fp : FldP own idx ci k ty) (hl : k < fs.length) (hn : narrow ty v = v) (hfit : fits ty v = true) (dg : decode cc pc = .ok (.putfield idx, 3))
    (kk : ∀ (H1 : Heap) (locs1 : List Loc), WN D A H0 (ws.set q0 (a, .inr (ci, fs.set k v))) H1 locs1 → W p l e R s m args below meth c H1 locs1 cells slots Q (F0 m (pc + 3) ls rest)) : W p l e R s m args below meth c H locs cells slots Q (F0 m pc ls (v :: .ref a :: rest)) := by
  obtain ⟨⟨hx, hb, hml, hown, hts⟩, hK, hA, hN⟩ := X
  obtain ⟨C, T, N, ty0, h1, h2, h3, h4, h5, h6, h7, h8, h9⟩ := fp
  exact va_put (C := C) (T := T) (N := N) (ref := C) hx hb hts h4 ty0 h6 h7 hown hK w.1 w.2.1 w.2.2 q0 he h1 k h2 (hts _ h5) (fun x hx => by rw [h3] at hx; exact hx) h8 h9 hn hfit hl dg (fun H1 locs1 hP hD hS => kk H1 locs1 ⟨hP, hD, hS⟩)
theorem nz_putf {a q0 ci k : Nat} {fs : List Value} {ty : FieldType} {v : Value} (X : CN p s m args c cc nL own D aC A H0) (hi : meth.name = "<init>") (w : WN D A H0 ws H locs) (he : ws[q0]? = some (a, .inr (ci, fs))) (fp : FldF own idx ci k ty) (hl : k < fs.length) (hn : narrow ty v = v) (hfit : fits ty v = true) (dg : decode cc pc = .ok (.putfield idx, 3))
    (kk : ∀ (H1 : Heap) (locs1 : List Loc), WN D A H0 (ws.set q0 (a, .inr (ci, fs.set k v))) H1 locs1 → W p l e R s m args below meth c H1 locs1 cells slots Q (F0 m (pc + 3) ls rest)) : W p l e R s m args below meth c H locs cells slots Q (F0 m pc ls (v :: .ref a :: rest)) := by
  obtain ⟨⟨hx, hb, hml, hown, hts⟩, hK, hA, hN⟩ := X
  obtain ⟨C, T, N, ty0, h1, h2, h3, h4, h4b, h5, h6, h7, h8, h9⟩ := fp
  exact va_putF (C := C) (T := T) (N := N) (ref := C) hx hb hts h4b ty0 h6 h7 hown hK w.1 w.2.1 w.2.2 q0 he h1 k h2 (hts _ h5) (fun x hx => by rw [h3] at hx; exact hx) h8 hi (h3.trans h4) h9 hn hfit hl dg (fun H1 locs1 hP hD hS => kk H1 locs1 ⟨hP, hD, hS⟩)
theorem nz_ast {a q0 n : Nat} {f : Nat → Int32} {i x : Int} (X : CN p s m args c cc nL own D aC A H0) (w : WN D A H0 ws H locs) (he : ws[q0]? = some (a, .inl (aC 0, (n, .inl f)))) (hr : inR i) (hin : 0 ≤ i ∧ i < n) (dg : decode cc pc = .ok (.iastore, 1))
    (kk : ∀ (H1 : Heap) (locs1 : List Loc), WN D A H0 (ws.set q0 (a, .inl (aC 0, (n, .inl (upd f i.toNat (i2 x)))))) H1 locs1 → W p l e R s m args below meth c H1 locs1 cells slots Q (F0 m (pc + 1) ls rest)) : W p l e R s m args below meth c H locs cells slots Q (F0 m pc ls (.int (i2 x) :: .int (i2 i) :: .ref a :: rest)) := by
  obtain ⟨⟨hx, hb, hml, hown, hts⟩, hK, hA, hN⟩ := X
  refine va_iast hx hb hK w.1 w.2.1 w.2.2 q0 0 he rfl (i2_in hr hin) dg (fun H1 locs1 hP hD hS => ?_)
  rw [i2_clamp hr] at hP hD
  exact kk H1 locs1 ⟨hP, hD, hS⟩
theorem EntN.at {h0 : Nat} {e0 : va_E} {av : List Value} (X : CN p s m args c cc nL own D aC A H0) (hP : va_P D vwCl [(h0, e0)] H) : ∀ U : State, U.heap = H → s.WarmedH U.vm → va_Pc av (EntN D aC h0 e0 H.size) av.toArray U := fun U hU hW => ⟨rfl, by rw [hU], by rw [hU]; exact hP, va_K.moved hW.alike X.2.1, NWs.warm hW X.2.2.2⟩
theorem last_P {x : Nat × va_E} (hP : va_P D vwCl (w0 ++ [x]) H) : va_P D vwCl [x] H := fun k q hk => by
  rw [(one_get hk).2]
  exact hP w0.length x (by rw [List.getElem?_append_right (Nat.le_refl _), Nat.sub_self]; rfl)
theorem last_A {x : Nat × va_E} (X : CN p s m args c cc nL own D aC A H0) (w : WN D A H0 (w0 ++ [x]) H locs) : ∀ q, va_A [x] H.size q → A q := by
  rintro q (⟨k, e, h⟩ | h)
  · have h3 := (one_get h).2
    have h4 := w.2.1.2 w0.length x (by rw [List.getElem?_append_right (Nat.le_refl _), Nat.sub_self]; rfl)
    rw [← h3] at h4
    exact h4
  · exact X.2.2.1 q (Nat.le_trans w.2.2.1 h)
theorem nz_ci {S : Type} {q0 : Nat} {e0 : va_E} {wf : S → va_W} (X : CN p s m args c cc nL own D aC A H0) (w : WN D A H0 (w0 ++ [(q0, e0)]) H locs) (hM : MetN l D aC S y ck maxL rm mc ms q0 e0 As wf) (lk : LkI own idx y ck maxL As.length) (hrm : rm.cells = mc ∧ rm.slots = ms) (hR : rm.frames + 1 ≤ R.frames ∧ 8 + (maxL + 11) + rm.locals ≤ R.locals) (hc : cells + mc ≤ R.cells ∧ slots + ms ≤ R.slots) (hln : ls.size = nL) (hst : st = As.reverse ++ .ref q0 :: rest) (hr8 : (rest.map fun v => v.category).sum ≤ 8) (dg : decode cc pc = .ok (.invokespecial idx, 3))
    (kk : ∀ (u : S) (H1 : Heap) (locs1 : List Loc), WN D A H0 (w0 ++ wf u) H1 locs1 → W p l e R s m args below meth c H1 locs1 (cells + mc) (slots + ms) Q (F0 m (pc + 3) ls rest)) : W p l e R s m args below meth c H locs cells slots Q (F0 m pc ls st) := by
  have hF := last_A X w
  have hE := fun av => EntN.at (av := av) X (last_P w.1)
  have S := X.1
  have hts := S.2.2.2.2
  refine va_callv (va_runI (As := As) (rest := rest) S (hM H.size) ⟨lk_B hts lk.1 hrm hR, lk.2.1, hts _ lk.2.2⟩ ⟨EntN.blind, hE _⟩ rfl rfl hln hst (lv_room hr8) dg hc) w.2.2 (fun q _ h => hF q h) hF (fun u t H1 locs1 ht hvm hw hB hz hk hS => ?_)
  obtain ⟨hP1, hD1⟩ := hB
  rw [ht] at hP1
  obtain ⟨hP, hD⟩ := wj_end w.1 w.2.1 hk hF hP1 hD1
  exact kk u H1 locs1 ⟨hP, hD, hS⟩
theorem nz_cin {S : Type} {host : String} {q0 : Nat} {e0 : va_E} {wf : S → va_W} (X : CN p s m args c cc nL own D aC A H0) (w : WN D A H0 (w0 ++ [(q0, e0)]) H locs) (hM : MetN l D aC S y ck maxL rm mc ms q0 e0 As wf) (hnw : va_Nw (.methodLinkNest own idx y host) s) (lk : LkIN y ck maxL As.length) (hrm : rm.cells = mc ∧ rm.slots = ms) (hR : rm.frames + 1 ≤ R.frames ∧ 8 + (maxL + 11) + rm.locals ≤ R.locals) (hc : cells + mc ≤ R.cells ∧ slots + ms ≤ R.slots) (hln : ls.size = nL) (hst : st = As.reverse ++ .ref q0 :: rest) (hr8 : (rest.map fun v => v.category).sum ≤ 8) (dg : decode cc pc = .ok (.invokespecial idx, 3))
    (kk : ∀ (u : S) (H1 : Heap) (locs1 : List Loc), WN D A H0 (w0 ++ wf u) H1 locs1 → W p l e R s m args below meth c H1 locs1 (cells + mc) (slots + ms) Q (F0 m (pc + 3) ls rest)) : W p l e R s m args below meth c H locs cells slots Q (F0 m pc ls st) := by
  have hF := last_A X w
  have hE := fun av => EntN.at (av := av) X (last_P w.1)
  have S := X.1
  have hts := S.2.2.2.2
  refine va_callv (va_runIN (As := As) (rest := rest) (host := host) S (hM H.size) ⟨va_cnB As.length hts (good_cons lk.1) rfl hrm.1 hrm.2 hnw (hts _ lk.2.1) lk.2.2.1 hR, lk.2.2.2.1, hts _ lk.2.2.2.2⟩ ⟨EntN.blind, hE _⟩ rfl rfl hln hst (lv_room hr8) dg hc) w.2.2 (fun q _ h => hF q h) hF (fun u t H1 locs1 ht hvm hw hB hz hk hS => ?_)
  obtain ⟨hP1, hD1⟩ := hB
  rw [ht] at hP1
  obtain ⟨hP, hD⟩ := wj_end w.1 w.2.1 hk hF hP1 hD1
  exact kk u H1 locs1 ⟨hP, hD, hS⟩
end NROWS
theorem MetN.of {l : Launch} {D : va_G} {aC : Nat → ClassId} {S : Type} {y : MethodName} {cc : ByteArray} {maxL : Nat} {rm : Room} {h0 : Nat} {e0 : va_E} {As : List Value} {wf : S → va_W} (hy : plainName y.cls = true) (hyn : y.name = "<init>") (hal : (lg_sl (.ref h0 :: As)).length ≤ maxL)
    (body : ∀ (p : Program) (e : Env) (s : State) (m : MethodId) (args : Array Value) (below : List Frame) (meth : Method) (c : Code) (Q : State → Prop) (A : Nat → Prop) (H0 : Heap) (ls : Array Slot), CN p s m args c cc maxL y.cls D aC A H0 → meth.name = "<init>" → lv_has ls maxL (lv_args 0 (.ref h0 :: As)) → WN D A H0 [(h0, e0)] H0 [] →
      (∀ (u : S) (H : Heap) (locs : List Loc) (pc : Nat) (ls : Array Slot), WN D A H0 (wf u) H locs → decode cc pc = .ok (.return_, 1) → W p l e rm s m args below meth c H locs rm.cells rm.slots Q (F0 m pc ls [])) → W p l e rm s m args below meth c H0 [] 0 0 Q (F0 m 0 ls [])) :
    MetN l D aC S y cc maxL rm rm.cells rm.slots h0 e0 As wf := by
  intro sz
  refine Met.ofW (cc := cc) (maxL := maxL) (ret := none) hy rfl ?_
  intro p e s m args below meth c s₁ B hml hv
  obtain ⟨rfl, hsz, hPw, hK, hN⟩ := hv
  subst hsz
  have hts := atoms_spec (ws := .code y cc maxL none :: BW) B.pre
  have hown : s.vm.findClass y.cls = some m.cls := findClass_of_methodNamed B.named
  have hlocks := B.notSynchronized
  have hin : meth.name = "<init>" := (name_of_methodNamed B.named B.method).1.trans hyn
  have hl := lv_entry (.ref h0 :: As) (n := maxL) hal
  rw [lg_entry_eq]
  generalize (lg_sl (.ref h0 :: As) ++ List.replicate (maxL - (lg_sl (.ref h0 :: As)).length) Slot.unset).toArray = ls at hl ⊢
  refine body p e s m _ below meth c _ (va_A [(h0, e0)] s.heap.size) s.heap ls ⟨⟨B.exec, B.bytes, hml, hown, fun w hw => hts w (List.mem_cons_of_mem _ hw)⟩, hK, fun q h => Or.inr h, hN⟩ hin hl ⟨hPw, one_D (Or.inl ⟨0, e0, rfl⟩), va_S.rf⟩ (fun u H locs pc ls w dg => ?_)
  exact W.vret B.exec B.bytes B.returns (fun t ht hW => ⟨⟨u, rfl, trivial, by rw [ht]; exact w.1, w.2.1⟩, w.2.2.F ht⟩) w.2.2.2.2 dg
