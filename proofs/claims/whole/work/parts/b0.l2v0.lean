/-! a call of a method that may throw (its caller catches) -/
theorem EntX.blind {D : va_G} {aC : Nat → ClassId} {ad : Nat → Nat} {sg : SG} {M : Mem} {av : List Value} {sz : Nat} : FrameBlind (va_Pc av (EntX D aC ad sg M sz)) := fun a U g mk q => by
  obtain ⟨q0, q1, qZ, qN⟩ := q
  refine ⟨q0, (Ent.blind (av := av) (D := D) (aC := aC) (ad := ad) (sg := sg) (M := M) (sz := sz) a U g mk ⟨q0, q1⟩).2, ?_, ?_⟩
  · exact vxZ.moved (u := U) (U := U.calling g mk a) (Vm.Alike.refl U.vm) qZ
  · exact vxN.same (u := U) rfl qN
section VXC
variable {p : Program} {l : Launch} {e : Env} {R : Room} {s : State} {m : MethodId} {args : Array Value} {below : List Frame} {meth : Method} {c : Code} {H : Heap} {locs : List Loc} {cells slots : Nat} {Q : State → Prop}
variable {cc : ByteArray} {nL : Nat} {own : String} {D : va_G} {aC : Nat → ClassId} {ad : Nat → Nat} {sg : SG} {A : Nat → Prop} {H0 : Heap} {M M' : Mem} {pc : Nat} {ls : Array Slot} {rest : List Value}
variable {idx maxL mc ms n : Nat} {y : MethodName} {ck : ByteArray} {ret : Option FieldType} {rm : Room} {As st : List Value} {r : Int}
theorem EntX.at {av : List Value} (X : CX p s m args c cc nL own D aC ad sg A H0) (hZ : vxZ A s s.heap) (hN : vxN s) (w : WS D aC ad A H0 M H locs) : ∀ U : State, U.heap = H → s.WarmedH U.vm → va_Pc av (EntX D aC ad sg M H.size) av.toArray U := fun U hU hW => by
  obtain ⟨q0, q1⟩ := Ent.at (av := av) X w U hU hW
  refine ⟨q0, q1, ?_, hN.warm hW⟩
  have e0 : H0 = s.heap := X.2.2.2.2.2.1
  subst e0
  rw [hU]
  exact ((hZ.kept w.2.1.2.1).narrow (AA_sub X w)).moved hW.alike
theorem g_cvx {o ci N : Nat} {T : u_T} (X : CX p s m args c cc nL own D aC ad sg A H0) (hZ : vxZ A s s.heap) (hN : vxN s) (w : WS D aC ad A H0 M H locs) (hM : MetX l D aC ad sg y ck maxL ret rm mc ms (.ref (ad o) :: As) M r M') (lk : LkV own idx y ck maxL ret As.length) (hcl : vwCl[ci]? = some (y.cls, T, N)) (ho : KD[o]? = some (.inl ci)) (hrm : rm.cells = mc ∧ rm.slots = ms) (hR : rm.frames + 1 ≤ R.frames ∧ 8 + (maxL + 11) + rm.locals ≤ R.locals) (hc : cells + mc ≤ R.cells ∧ slots + ms ≤ R.slots) (hln : ls.size = nL) (hst : st = As.reverse ++ .ref (ad o) :: rest) (hr8 : (rest.map fun v => v.category).sum ≤ 8) (dg : decode cc pc = .ok (.invokevirtual idx, 3))
    (kx : r = 2147483648 → ∀ (ce : Cell) (q9 : Addr) (H1 : Heap) (locs1 : List Loc), WS D aC ad A H0 M' H1 locs1 → H1[q9]? = some ce → ce.vm = .none → s.vm.findClass thE = some ce.cls → vx_W p l e R s m args below meth c H1 locs1 (cells + mc) (slots + ms) Q (F0 m pc ls rest) q9)
    (kk : inR r → ∀ (H1 : Heap) (locs1 : List Loc), WS D aC ad A H0 M' H1 locs1 → W p l e R s m args below meth c H1 locs1 (cells + mc) (slots + ms) Q (F0 m (pc + 3) ls (.int (i2 r) :: rest))) : W p l e R s m args below meth c H locs cells slots Q (F0 m pc ls st) := by
  have hF := AA_sub X w
  have hE := fun av => EntX.at (av := av) X hZ hN w
  obtain ⟨S, hK, hi, hA⟩ := X
  have hts := S.2.2.2.2
  refine vx_calli (vx_runV (As := As) (rest := rest) S (hM H.size) ⟨lk_B hts lk.1 hrm hR, hts _ lk.2.1, hts _ lk.2.2⟩ ⟨EntX.blind, va_recv hK w.1 (ci := ci) (q0 := o) hcl ((wl_get (KD_lt ho)).trans (by rw [enc_o ho])), hE _⟩ rfl rfl hln hst (lv_room hr8) dg hc) w.2.1 (fun q _ h => hF q h) hF (fun q _ h => hF q h) (fun E ce q9 u t H1 locs1 ht hvm hp hB hz hk hS hce hcv hcl => ?_) (fun q u t H1 locs1 ht hvm hw hB hz hk hS => ?_)
  · obtain ⟨h1, h2⟩ := hp
    obtain ⟨rfl, hB⟩ := hB
    rw [ht] at hB
    exact kx h1 ce q9 H1 locs1 ⟨hB, hS, h2⟩ hce hcv hcl
  · obtain ⟨rfl, h1, h2⟩ := hw
    rw [ht] at hB
    exact kk h1 H1 locs1 ⟨hB, hS, h2⟩
end VXC
