/-! a method's own array of three: it lies at qa, behind the world; its places are M 121 -/
def mzq (M : Mem) : Mem := fun c i => if c = 121 then 0 else M c i
def kq (M N : Mem) : Mem := fun c i => if c = 121 then M c i else N c i
theorem inM.mzq {M : Mem} (h : inM M) : inM (mzq M) := by
  intro c i
  show inR (if c = 121 then 0 else M c i)
  split
  · exact ⟨by decide, by decide⟩
  · exact h c i
theorem inM.kq {M N : Mem} (h : inM M) (h2 : inM N) : inM (kq M N) := by
  intro c i
  show inR (if c = 121 then M c i else N c i)
  split
  · exact h c i
  · exact h2 c i
theorem wl_same {aC : Nat → ClassId} {ad : Nat → Nat} {M N : Mem} (h : ∀ c i, c < NC → N c i = M c i) : wl aC ad N = wl aC ad M := by
  apply List.ext_getElem?
  intro k
  by_cases hk : k < NC
  · rw [wl_get hk, wl_get hk, enc_eq (fun i => h k i hk)]
  · rw [List.getElem?_eq_none (by rw [wl_len]; omega), List.getElem?_eq_none (by rw [wl_len]; omega)]
theorem wl_zq {aC : Nat → ClassId} {ad : Nat → Nat} {M : Mem} : wl aC ad (mzq M) = wl aC ad M := wl_same (fun c i h => if_neg (by unfold NC at h; omega))
theorem wl_kq {aC : Nat → ClassId} {ad : Nat → Nat} {M N : Mem} : wl aC ad (kq M N) = wl aC ad N := wl_same (fun c i h => if_neg (by unfold NC at h; omega))
def wq (aC : Nat → ClassId) (ad : Nat → Nat) (qa : Nat) (M : Mem) : va_W := wl aC ad M ++ [(qa, .inl (aC 0, 3, .inl (fun j => i2 (M 121 j))))]
def WL (D : va_G) (aC : Nat → ClassId) (ad : Nat → Nat) (qa : Nat) (A : Nat → Prop) (H0 : Heap) (M : Mem) (H : Heap) (locs : List Loc) : Prop := va_P D vwCl (wq aC ad qa M) H ∧ va_D A (wq aC ad qa M) ∧ va_S A H0 H locs ∧ inM M
section LQ
variable {D : va_G} {aC : Nat → ClassId} {ad : Nat → Nat} {qa : Nat} {sg : SG} {A : Nat → Prop} {H0 H : Heap} {M : Mem} {locs : List Loc}
theorem wq_l {k : Nat} (h : k < NC) : (wq aC ad qa M)[k]? = (wl aC ad M)[k]? := by
  unfold wq
  rw [List.getElem?_append_left (by rw [wl_len]; exact h)]
theorem wq_q : (wq aC ad qa M)[NC]? = some (qa, .inl (aC 0, 3, .inl (fun j => i2 (M 121 j)))) := by
  unfold wq
  rw [List.getElem?_append_right (by rw [wl_len]; exact Nat.le_refl _), wl_len, Nat.sub_self]
  rfl
theorem WL.ws (h : WL D aC ad qa A H0 M H locs) : WS D aC ad A H0 M H locs := ⟨fun k q hk => h.1 k q (by rw [wq_l (wl_none hk).1]; exact hk), h.2.2.1, h.2.2.2⟩
theorem wq_set {a : Nat} (ha : a < NC) {e : va_E} {M' : Mem} (h : (wl aC ad M).set a (ad a, e) = wl aC ad M') (h2 : ∀ j, M' 121 j = M 121 j) : (wq aC ad qa M).set a (ad a, e) = wq aC ad qa M' := by
  unfold wq
  rw [List.set_append_left _ _ (by rw [wl_len]; exact ha), h, show (fun j => i2 (M' 121 j)) = fun j => i2 (M 121 j) from funext fun j => by rw [h2 j]]
theorem wq_setq {i : Nat} {x : Int} : (wq aC ad qa M).set NC (qa, .inl (aC 0, 3, .inl (upd (fun j => i2 (M 121 j)) i (i2 x)))) = wq aC ad qa (mup M 121 i x) := by
  unfold wq
  rw [List.set_append_right _ _ (by rw [wl_len]; exact Nat.le_refl _), wl_len, Nat.sub_self, show wl aC ad (mup M 121 i x) = wl aC ad M from wl_same (fun c j h => mup_ne (by unfold NC at h; omega) j)]
  show wl aC ad M ++ [(qa, _)] = _
  congr 7
  funext j
  show upd (fun j => i2 (M 121 j)) i (i2 x) j = i2 (mup M 121 i x 121 j)
  rw [mup_row]
  unfold upd
  by_cases hj : j = i <;> simp [hj]
theorem wl_arr {a t n i : Nat} {x : Int} (ho : KD[a]? = some (.inr (t, n))) (ht : t ≠ 4) : (wl aC ad M).set a (ad a, .inl (aC t, n, .inl (upd (fun j => i2 (M a j)) i (i2 x)))) = wl aC ad (mup M a i x) := by
  refine wl_set (KD_lt ho) (fun c' hc j => (mup_ne hc j).symm) ?_
  rw [enc_a ho ht]
  congr 4
  funext j
  show upd (fun j => i2 (M a j)) i (i2 x) j = i2 (mup M a i x a j)
  rw [mup_row]
  unfold upd
  by_cases hj : j = i <;> simp [hj]
theorem wl_put {o k ci : Nat} {v : Value} {x : Int} (ho : KD[o]? = some (.inl ci)) (hv : fv ad (FR o k) x = v) (h2 : k < obN ci) : (wl aC ad M).set o (ad o, .inr (ci, ((List.range (obN ci)).map fun k => fv ad (FR o k) (M o k)).set k v)) = wl aC ad (mup M o k x) := by
  refine wl_set (KD_lt ho) (fun c' hc i => (mup_ne hc i).symm) ?_
  rw [enc_o ho]
  congr 2
  apply List.ext_getElem?
  intro j
  by_cases hj : j = k
  · subst hj
    rw [List.getElem?_set_self (by rw [List.length_map, List.length_range]; exact h2), List.getElem?_map, List.getElem?_range h2]
    show some v = some (fv ad (FR o j) (mup M o j x o j))
    rw [mup_self, hv]
  · rw [List.getElem?_set_ne (Ne.symm hj), List.getElem?_map, List.getElem?_map]
    by_cases hjN : j < obN ci
    · rw [List.getElem?_range hjN]
      show some (fv ad (FR o j) (M o j)) = some (fv ad (FR o j) (mup M o k x o j))
      rw [mup_row, if_neg hj]
    · rw [List.getElem?_eq_none (by rw [List.length_range]; omega)]
      rfl
end LQ
section LQR
variable {p : Program} {l : Launch} {e : Env} {R : Room} {s : State} {m : MethodId} {args : Array Value} {below : List Frame} {meth : Method} {c : Code} {H : Heap} {locs : List Loc} {cells slots : Nat} {Q : State → Prop}
variable {cc : ByteArray} {nL : Nat} {own : String} {D : va_G} {aC : Nat → ClassId} {ad : Nat → Nat} {qa : Nat} {sg : SG} {A : Nat → Prop} {H0 : Heap} {M M' : Mem} {pc : Nat} {ls : Array Slot} {rest : List Value}
variable {idx maxL mc ms : Nat} {y : MethodName} {ck : ByteArray} {ret : Option FieldType} {rm : Room} {As st : List Value} {r : Int}
theorem gq_new (X : CX p s m args c cc nL own D aC ad sg A H0) (w : WS D aC ad A H0 M H locs) (harr : Cond.arrayClass .int ∈ BW) (hcells : cells + 1 ≤ R.cells) (hslots : slots + 3 ≤ R.slots) (dg : decode cc pc = .ok (.newarray .int, 2))
    (kk : ∀ (qa : Nat) (H1 : Heap), WL D aC ad qa A H0 (mzq M) H1 locs → W p l e R s m args below meth c H1 locs (cells + 1) (slots + 3) Q (F0 m (pc + 2) ls (.ref qa :: rest))) : W p l e R s m args below meth c H locs cells slots Q (F0 m pc ls (.int (i2 3) :: rest)) := by
  obtain ⟨⟨hx, hb, hml, hown, hts⟩, hK, hi, hA, hA2, hSt⟩ := X
  refine va_newa (atype := .int) (ty := .int) (a0 := (3, .inl (fun _ => 0))) hx hb (hts _ harr) rfl hK w.1 (wl_D hi hA) w.2.1 hA2 (fun cA => ?_) (by decide) (by decide) (by decide) hcells hslots dg (fun qa cA H1 hK2 hP hD hS => ?_)
  · rw [vp_cell_i]; rfl
  · have e1 := (hK2.2 5 _ (show (tysL aC ++ [(cA, FieldType.int)])[5]? = some (cA, .int) from rfl)).2
    have e2 := (hK.2 0 _ (show (tysL aC)[0]? = some (aC 0, .int) from rfl)).2
    have e3 : aC 0 = cA := Option.some.inj ((show s.vm.findClass _ = some (aC 0) from e2).symm.trans (show s.vm.findClass _ = some cA from e1))
    subst e3
    have e : wl aC ad M ++ [(qa, (Sum.inl (aC 0, 3, .inl (fun _ => (0 : Int32))) : va_E))] = wq aC ad qa (mzq M) := by unfold wq; rw [wl_zq]; rfl
    rw [e] at hP hD
    exact kk qa H1 ⟨hP, hD, hS, w.2.2.mzq⟩
theorem gq_ald {i : Int} (X : CX p s m args c cc nL own D aC ad sg A H0) (w : WL D aC ad qa A H0 M H locs) (hr : inR i) (hin : 0 ≤ i ∧ i < 3) (dg : decode cc pc = .ok (.iaload, 1))
    (kk : W p l e R s m args below meth c H locs cells slots Q (F0 m (pc + 1) ls (.int (i2 (M 121 i.toNat)) :: rest))) : W p l e R s m args below meth c H locs cells slots Q (F0 m pc ls (.int (i2 i) :: .ref qa :: rest)) := by
  obtain ⟨⟨hx, hb, hml, hown, hts⟩, hK, hi, hA, hA2, hSt⟩ := X
  refine va_iald hx hb hK w.1 NC 0 wq_q rfl (i2_in (n := 3) hr hin) dg ?_
  rw [i2_clamp hr]; exact kk
theorem gq_ast {i x : Int} (X : CX p s m args c cc nL own D aC ad sg A H0) (w : WL D aC ad qa A H0 M H locs) (hr : inR i) (hin : 0 ≤ i ∧ i < 3) (hx0 : inR x) (dg : decode cc pc = .ok (.iastore, 1))
    (kk : ∀ (H1 : Heap) (locs1 : List Loc), WL D aC ad qa A H0 (mup M 121 i.toNat x) H1 locs1 → W p l e R s m args below meth c H1 locs1 cells slots Q (F0 m (pc + 1) ls rest)) : W p l e R s m args below meth c H locs cells slots Q (F0 m pc ls (.int (i2 x) :: .int (i2 i) :: .ref qa :: rest)) := by
  obtain ⟨⟨hx, hb, hml, hown, hts⟩, hK, hi, hA, hA2, hSt⟩ := X
  refine va_iast hx hb hK w.1 w.2.1 w.2.2.1 NC 0 wq_q rfl (i2_in (n := 3) hr hin) dg (fun H1 locs1 hP hD hS => ?_)
  rw [i2_clamp hr, wq_setq] at hP hD
  exact kk H1 locs1 ⟨hP, hD, hS, w.2.2.2.up hx0⟩
theorem gq_iast {a n : Nat} {i x : Int} (X : CX p s m args c cc nL own D aC ad sg A H0) (w : WL D aC ad qa A H0 M H locs) (ho : KD[a]? = some (.inr (0, n))) (hr : inR i) (hin : 0 ≤ i ∧ i < n) (hx0 : inR x) (dg : decode cc pc = .ok (.iastore, 1))
    (kk : ∀ (H1 : Heap) (locs1 : List Loc), WL D aC ad qa A H0 (mup M a i.toNat x) H1 locs1 → W p l e R s m args below meth c H1 locs1 cells slots Q (F0 m (pc + 1) ls rest)) : W p l e R s m args below meth c H locs cells slots Q (F0 m pc ls (.int (i2 x) :: .int (i2 i) :: .ref (ad a) :: rest)) := by
  obtain ⟨⟨hx, hb, hml, hown, hts⟩, hK, hi, hA, hA2, hSt⟩ := X
  have ha := KD_lt ho
  refine va_iast hx hb hK w.1 w.2.1 w.2.2.1 a 0 ((wq_l ha).trans ((wl_get ha).trans (by rw [enc_a ho (by decide)]))) rfl (i2_in hr hin) dg (fun H1 locs1 hP hD hS => ?_)
  rw [i2_clamp hr, wq_set ha (wl_arr (x := x) (i := i.toNat) ho (by decide)) (fun j => mup_ne (by unfold NC at ha; omega) j)] at hP hD
  exact kk H1 locs1 ⟨hP, hD, hS, w.2.2.2.up hx0⟩
theorem gq_put {o k ci idx : Nat} {ty : FieldType} {v : Value} {x : Int} (X : CX p s m args c cc nL own D aC ad sg A H0) (w : WL D aC ad qa A H0 M H locs) (fp : FldP own idx ci k ty) (ho : KD[o]? = some (.inl ci)) (hv : fv ad (FR o k) x = v) (hx0 : inR x) (hn : narrow ty v = v) (hfit : fits ty v = true) (dg : decode cc pc = .ok (.putfield idx, 3))
    (kk : ∀ (H1 : Heap) (locs1 : List Loc), WL D aC ad qa A H0 (mup M o k x) H1 locs1 → W p l e R s m args below meth c H1 locs1 cells slots Q (F0 m (pc + 3) ls rest)) : W p l e R s m args below meth c H locs cells slots Q (F0 m pc ls (v :: .ref (ad o) :: rest)) := by
  obtain ⟨⟨hx, hb, hml, hown, hts⟩, hK, hi, hA, hA2, hSt⟩ := X
  obtain ⟨C, T, N, ty0, h1, h2, h3, h4, h5, h6, h7, h8, h9⟩ := fp
  have ha := KD_lt ho
  refine va_put (C := C) (T := T) (N := N) (ref := C) hx hb hts h4 ty0 h6 h7 hown hK w.1 w.2.1 w.2.2.1 o ((wq_l ha).trans ((wl_get ha).trans (by rw [enc_o ho]))) h1 k h2 (hts _ h5) (fun x hx => by rw [h3] at hx; exact hx) h8 h9 hn hfit (by rw [List.length_map, List.length_range, obN_of h1]; exact h2) dg (fun H1 locs1 hP hD hS => ?_)
  rw [wq_set ha (wl_put (x := x) ho hv (by rw [obN_of h1]; exact h2)) (fun j => mup_ne (by unfold NC at ha; omega) j)] at hP hD
  exact kk H1 locs1 ⟨hP, hD, hS, w.2.2.2.up hx0⟩
theorem gq_puti {o k ci idx : Nat} {x : Int} (X : CX p s m args c cc nL own D aC ad sg A H0) (w : WL D aC ad qa A H0 M H locs) (fp : FldP own idx ci k .int) (ho : KD[o]? = some (.inl ci)) (hf : FR o k = 0) (hx0 : inR x) (dg : decode cc pc = .ok (.putfield idx, 3))
    (kk : ∀ (H1 : Heap) (locs1 : List Loc), WL D aC ad qa A H0 (mup M o k x) H1 locs1 → W p l e R s m args below meth c H1 locs1 cells slots Q (F0 m (pc + 3) ls rest)) : W p l e R s m args below meth c H locs cells slots Q (F0 m pc ls (.int (i2 x) :: .ref (ad o) :: rest)) := gq_put X w fp ho (fv_0 hf) hx0 rfl rfl dg kk
theorem gq_putz {o k ci idx : Nat} {x : Int} (X : CX p s m args c cc nL own D aC ad sg A H0) (w : WL D aC ad qa A H0 M H locs) (fp : FldP own idx ci k .boolean) (ho : KD[o]? = some (.inl ci)) (hf : FR o k = 0) (hx0 : x = 0 ∨ x = 1) (dg : decode cc pc = .ok (.putfield idx, 3))
    (kk : ∀ (H1 : Heap) (locs1 : List Loc), WL D aC ad qa A H0 (mup M o k x) H1 locs1 → W p l e R s m args below meth c H1 locs1 cells slots Q (F0 m (pc + 3) ls rest)) : W p l e R s m args below meth c H locs cells slots Q (F0 m pc ls (.int (i2 x) :: .ref (ad o) :: rest)) := gq_put X w fp ho (fv_0 hf) (by rcases hx0 with rfl | rfl <;> exact ⟨by decide, by decide⟩) (i2_bool hx0).1 (i2_bool hx0).2 dg kk
theorem gq_cvi {o ci N : Nat} {T : u_T} (X : CX p s m args c cc nL own D aC ad sg A H0) (w : WL D aC ad qa A H0 M H locs) (hM : MetI l D aC ad sg y ck maxL ret rm mc ms (.ref (ad o) :: As) M r M') (lk : LkV own idx y ck maxL ret As.length) (hcl : vwCl[ci]? = some (y.cls, T, N)) (ho : KD[o]? = some (.inl ci)) (hrm : rm.cells = mc ∧ rm.slots = ms) (hR : rm.frames + 1 ≤ R.frames ∧ 8 + (maxL + 11) + rm.locals ≤ R.locals) (hc : cells + mc ≤ R.cells ∧ slots + ms ≤ R.slots) (hln : ls.size = nL) (hst : st = As.reverse ++ .ref (ad o) :: rest) (hr8 : (rest.map fun v => v.category).sum ≤ 8) (dg : decode cc pc = .ok (.invokevirtual idx, 3))
    (kk : inR r → ∀ (H1 : Heap) (locs1 : List Loc), WL D aC ad qa A H0 (kq M M') H1 locs1 → W p l e R s m args below meth c H1 locs1 (cells + mc) (slots + ms) Q (F0 m (pc + 3) ls (.int (i2 r) :: rest))) : W p l e R s m args below meth c H locs cells slots Q (F0 m pc ls st) := by
  have hF := AA_sub X w.ws
  have hE := fun av => Ent.at (av := av) X w.ws
  obtain ⟨S, hK, hi, hA⟩ := X
  have hts := S.2.2.2.2
  refine va_calli (va_runV (As := As) (rest := rest) S (hM H.size) ⟨lk_B hts lk.1 hrm hR, hts _ lk.2.1, hts _ lk.2.2⟩ ⟨Ent.blind, va_recv hK w.ws.1 (ci := ci) (q0 := o) hcl ((wl_get (KD_lt ho)).trans (by rw [enc_o ho])), hE _⟩ rfl rfl hln hst (lv_room hr8) dg hc) w.2.2.1 (fun q _ h => hF q h) hF (fun q u t H1 locs1 ht hvm hw hB hz hk hS => ?_)
  obtain ⟨rfl, h1, h2⟩ := hw
  rw [ht] at hB
  have hq0 := w.1 NC _ wq_q
  have hlt := hq0.lt
  have hne : ¬ AA ad H.size qa := by
    rintro (⟨k, hk2, e⟩ | h)
    · have := w.2.1.1 NC k _ _ wq_q ((wq_l hk2).trans (wl_get hk2)) e
      omega
    · exact absurd (show qa < H.size from hlt) (by omega)
  refine kk h1 H1 locs1 ⟨?_, ?_, hS, w.2.2.2.kq h2⟩
  · intro k q hk2
    by_cases h : k < NC
    · rw [wq_l h, wl_kq] at hk2
      exact hB k q hk2
    · have hkn : k = NC := by
        have := (List.getElem?_eq_some_iff.mp hk2).1
        unfold wq at this
        rw [List.length_append, wl_len] at this
        have e : ([(qa, (Sum.inl (aC 0, 3, .inl (fun j => i2 (kq M M' 121 j))) : va_E))] : va_W).length = 1 := rfl
        rw [e] at this
        omega
      subst hkn
      rw [wq_q] at hk2
      cases hk2
      exact hq0.kept (hk qa hlt hne)
  · have hd := w.2.1
    refine ⟨fun i j a b ha hb e => ?_, fun k q hk2 => ?_⟩
    · have f : ∀ (k : Nat) (q : Nat × va_E), (wq aC ad qa (kq M M'))[k]? = some q → ∃ q0, (wq aC ad qa M)[k]? = some q0 ∧ q0.1 = q.1 := by
        intro k q hk2
        by_cases h : k < NC
        · rw [wq_l h, wl_get h] at hk2
          cases hk2
          exact ⟨_, (wq_l h).trans (wl_get h), rfl⟩
        · have hkn : k = NC := by
            have := (List.getElem?_eq_some_iff.mp hk2).1
            unfold wq at this
            rw [List.length_append, wl_len] at this
            have e : ([(qa, (Sum.inl (aC 0, 3, .inl (fun j => i2 (kq M M' 121 j))) : va_E))] : va_W).length = 1 := rfl
            rw [e] at this
            omega
          subst hkn
          rw [wq_q] at hk2
          cases hk2
          exact ⟨_, wq_q, rfl⟩
      obtain ⟨a0, ha0, ea⟩ := f i a ha
      obtain ⟨b0, hb0, eb⟩ := f j b hb
      exact hd.1 i j a0 b0 ha0 hb0 (by rw [ea, eb, e])
    · by_cases h : k < NC
      · rw [wq_l h, wl_get h] at hk2
        cases hk2
        have z := hd.2 k _ ((wq_l h).trans (wl_get h))
        exact z
      · have hkn : k = NC := by
          have := (List.getElem?_eq_some_iff.mp hk2).1
          unfold wq at this
          rw [List.length_append, wl_len] at this
          have e : ([(qa, (Sum.inl (aC 0, 3, .inl (fun j => i2 (kq M M' 121 j))) : va_E))] : va_W).length = 1 := rfl
          rw [e] at this
          omega
        subst hkn
        rw [wq_q] at hk2
        cases hk2
        exact hd.2 NC _ wq_q
end LQR
