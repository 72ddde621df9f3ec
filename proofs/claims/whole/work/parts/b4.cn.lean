/-! the constructors -/
theorem nlt_ {a b : Nat} (h : Nat.ble (a + 1) b = true) : a < b := Nat.le_of_ble_eq_true h
theorem vp_ext {cA : ClassId} {n : Nat} {f g : Nat → Int32} (h : ∀ j, j < n → f j = g j) : vp_cell cA (n, .inl f) = vp_cell cA (n, .inl g) := by
  rw [vp_cell_i, vp_cell_i]
  unfold arrV
  exact congrArg (fun z : Fin n → Value => ({ cls := cA, slots := Array.ofFn z, vm := .none } : Cell)) (funext fun j => congrArg Value.int (h j.val j.isLt))
theorem upd_if {i : Nat} {x y : Int32} : (upd (fun j => if j < i then x else y) ((i : Int)).toNat x) = fun j => if j < i + 1 then x else y := by
  funext j
  unfold upd
  by_cases h : j = ((i : Int)).toNat
  · rw [if_pos h, if_pos (by omega)]
  · rw [if_neg h]
    show (if j < i then x else y) = _
    by_cases h2 : j < i
    · rw [if_pos h2, if_pos (by omega)]
    · rw [if_neg h2, if_neg (by omega)]
section FILLN
variable {p : Program} {l : Launch} {e : Env} {R : Room} {s : State} {m : MethodId} {args : Array Value} {below : List Frame} {meth : Method} {c : Code} {H : Heap} {locs : List Loc} {cells slots : Nat} {Q : State → Prop}
variable {cc : ByteArray} {nL : Nat} {own : String} {D : va_G} {aC : Nat → ClassId} {A : Nat → Prop} {H0 : Heap} {ws w0 : va_W} {pc : Nat} {ls : Array Slot} {rest : List Value}
theorem nz_ext {k0 a n : Nat} {cA : ClassId} {f g : Nat → Int32} (w : WN D A H0 ws H locs) (he : ws[k0]? = some (a, .inl (cA, (n, .inl f)))) (h : ∀ j, j < n → f j = g j) : WN D A H0 (ws.set k0 (a, .inl (cA, (n, .inl g)))) H locs := by
  obtain ⟨h1, h2⟩ := wj_at (e1 := .inl (cA, (n, .inl g))) w.1 w.2.1 he (fun _ _ _ => rfl) (fun k q hk => by
    rw [(one_get hk).2]
    show H[a]? = some (vp_cell cA (n, .inl g))
    rw [← vp_ext h]
    exact w.1 k0 _ he)
  exact ⟨h1, h2, w.2.2⟩
set_option maxRecDepth 100000 in
set_option maxHeartbeats 4000000 in
theorem fillN_loop (X : CN p s m args c cJ7_fill_53178 4 RJ7 D aC A H0) {a n : Nat} {v0 v : Int} (hn : n ≤ 10000) (HE : ∀ (H : Heap) (locs : List Loc) (ls : Array Slot), WN D A H0 [arC a (aC 0) n v] H locs → W p l e R s m args below meth c H locs cells slots Q (F0 m 20 ls [])) : ∀ (k i : Nat), k + i = n → ∀ {H : Heap} {locs : List Loc} {ls : Array Slot}, lv_has ls 4 [(2, .int (i2 (i : Int))), (0, .ref a), (1, .int (i2 v)), (3, .int (i2 (n : Int)))] → WN D A H0 [(a, .inl (aC 0, (n, .inl fun j => if j < i then i2 v else i2 v0)))] H locs → W p l e R s m args below meth c H locs cells slots Q (F0 m 5 ls []) := by
  have hx := X.1.1
  have hb := X.1.2.1
  have hrn : inR (n : Int) := ⟨by omega, by omega⟩
  intro k
  induction k with
  | zero =>
    intro i hi H locs ls hl w
    refine lv_iload_n hx hb dJ7_fill_53178_5 rfl (lv_at hl 0 rfl) ?_
    refine lv_iload_n hx hb dJ7_fill_53178_6 rfl (lv_at hl 3 rfl) ?_
    have hri : inR (i : Int) := ⟨by omega, by omega⟩
    refine lv_icmp_ge (tgt := 20) hx hb dJ7_fill_53178_7 (by decide) (fun cd => ?_) (fun cd => ?_)
    · exact HE H locs ls (nz_ext (k0 := 0) (g := fun _ => i2 v) w rfl (fun j hj => if_pos (by omega)))
    · exact absurd ((i2_le hrn hri).mpr (by omega)) cd
  | succ k ih =>
    intro i hi H locs ls hl w
    refine lv_iload_n hx hb dJ7_fill_53178_5 rfl (lv_at hl 0 rfl) ?_
    refine lv_iload_n hx hb dJ7_fill_53178_6 rfl (lv_at hl 3 rfl) ?_
    have hri : inR (i : Int) := ⟨by omega, by omega⟩
    refine lv_icmp_ge (tgt := 20) hx hb dJ7_fill_53178_7 (by decide) (fun cd => ?_) (fun cd => ?_)
    · exact absurd ((i2_le hrn hri).mp cd) (by omega)
    · refine lv_aload_n hx hb dJ7_fill_53178_10 rfl (lv_at hl 1 rfl) ?_
      refine lv_iload_n hx hb dJ7_fill_53178_11 rfl (lv_at hl 0 rfl) ?_
      refine lv_iload_n hx hb dJ7_fill_53178_12 rfl (lv_at hl 2 rfl) ?_
      refine nz_ast (q0 := 0) (n := n) X w rfl hri (by omega) dJ7_fill_53178_13 (fun H locs w => ?_)
      have e1 : wrap ((i : Int) + 1) = ((i + 1 : Nat) : Int) := by rw [wrap_of (by omega) (by omega)]; omega
      refine lv_iinc (v := i2 ((i + 1 : Nat) : Int)) (lv' := [(2, .int (i2 ((i + 1 : Nat) : Int))), (0, .ref a), (1, .int (i2 v)), (3, .int (i2 (n : Int)))]) hx hb dJ7_fill_53178_14 hl (k := 0) rfl (by rw [← e1]; exact i2_add _ _) (by decide) rfl (fun ls hl => ?_)
      refine lv_goto (tgt := 5) hx hb dJ7_fill_53178_17 (by decide) ?_
      refine ih (i + 1) (by omega) hl ?_
      rw [upd_if] at w
      exact w
set_option maxRecDepth 100000 in
set_option maxHeartbeats 4000000 in
theorem k_fillN {l : Launch} {D : va_G} {aC : Nat → ClassId} {a n : Nat} {v0 v : Int} (hn : n ≤ 10000) (sz : Nat) : Met l yJ7_fill_53178 (.code yJ7_fill_53178 cJ7_fill_53178 4 none :: BW) rm_J7_fill_53178 (va_Pc [.ref a, .int (i2 v)] (EntN D aC a (arC a (aC 0) n v0).2 sz)) (va_Qv (fun _ : Unit => True) (fun _ t => va_P D vwCl [arC a (aC 0) n v] t.heap) (va_A [arC a (aC 0) n v0] sz)) 0 0 (va_A [arC a (aC 0) n v0] sz) := by
  refine Met.ofW (cc := cJ7_fill_53178) (maxL := 4) (ret := none) (by decide +kernel) rfl ?_
  intro p e s m args below meth c s₁ B hml hv
  obtain ⟨rfl, hsz, hPw, hK, hN⟩ := hv
  subst hsz
  have hts := atoms_spec (ws := .code yJ7_fill_53178 cJ7_fill_53178 4 none :: BW) B.pre
  have hown : s.vm.findClass RJ7 = some m.cls := findClass_of_methodNamed B.named
  have hlocks := B.notSynchronized
  have hl := lv_entry [.ref a, .int (i2 v)] (n := 4) (nle rfl)
  rw [lg_entry_eq]
  generalize (lg_sl [.ref a, .int (i2 v)] ++ List.replicate (4 - (lg_sl [.ref a, .int (i2 v)]).length) Slot.unset).toArray = ls at hl ⊢
  replace hl : lv_has ls 4 [(0, .ref a), (1, .int (i2 v))] := hl
  have X : CN p s m _ c cJ7_fill_53178 4 RJ7 D aC (va_A [arC a (aC 0) n v0] s.heap.size) s.heap := ⟨⟨B.exec, B.bytes, hml, hown, fun w hw => hts w (List.mem_cons_of_mem _ hw)⟩, hK, fun q h => Or.inr h, hN⟩
  have w : WN D (va_A [arC a (aC 0) n v0] s.heap.size) s.heap [arC a (aC 0) n v0] s.heap [] := ⟨hPw, one_D (Or.inl ⟨0, _, rfl⟩), va_S.rf⟩
  have hx := X.1.1
  have hb := X.1.2.1
  refine nz_iconst X dJ7_fill_53178_0 ?_
  refine lv_istore_n (lv' := [(2, .int (i2 0)), (0, .ref a), (1, .int (i2 v))]) hx hb dJ7_fill_53178_1 rfl hl (by decide) rfl (fun ls hl => ?_)
  refine lv_aload_n hx hb dJ7_fill_53178_2 rfl (lv_at hl 1 rfl) ?_
  refine va_alen hx hb hK w.1 0 0 rfl rfl (v := i2 (n : Int)) rfl dJ7_fill_53178_3 ?_
  refine lv_istore_n (lv' := [(3, .int (i2 (n : Int))), (2, .int (i2 0)), (0, .ref a), (1, .int (i2 v))]) hx hb dJ7_fill_53178_4 rfl hl (by decide) rfl (fun ls hl => ?_)
  refine fillN_loop (v0 := v0) X hn (fun H locs ls w => ?_) n 0 rfl (lv_sub hl [1, 2, 3, 0] rfl) (nz_ext (k0 := 0) w rfl (fun j hj => (if_neg (by omega)).symm))
  exact W.vret B.exec B.bytes B.returns (fun t ht hW => ⟨⟨(), rfl, trivial, by show va_P _ _ _ t.heap; rw [ht]; exact w.1⟩, w.2.2.F ht⟩) w.2.2.2.2 dJ7_fill_53178_20
theorem nz_fill {idx q0 a n : Nat} {v0 v : Int} (X : CN p s m args c cc nL own D aC A H0) (w : WN D A H0 ws H locs) (he : ws[q0]? = some (arC a (aC 0) n v0)) (hn : n ≤ 10000) (hv : inR v) (lk : LkS own idx yJ7_fill_53178 cJ7_fill_53178 4 none 2) (hR : 1 ≤ R.frames ∧ 23 ≤ R.locals) (hc : cells ≤ R.cells ∧ slots ≤ R.slots) (hln : ls.size = nL) (hr8 : (rest.map fun v => v.category).sum ≤ 8) (dg : decode cc pc = .ok (.invokestatic idx, 3))
    (kk : ∀ (H1 : Heap) (locs1 : List Loc), WN D A H0 (ws.set q0 (arC a (aC 0) n v)) H1 locs1 → W p l e R s m args below meth c H1 locs1 cells slots Q (F0 m (pc + 3) ls rest)) : W p l e R s m args below meth c H locs cells slots Q (F0 m pc ls (.int (i2 v) :: .ref a :: rest)) := by
  have hP1 : va_P D vwCl [arC a (aC 0) n v0] H := fun k q hk => by rw [(one_get hk).2]; exact w.1 q0 _ he
  have hF : ∀ q, va_A [arC a (aC 0) n v0] H.size q → A q := by
    rintro q (⟨k, e, h⟩ | h)
    · have h3 := (one_get h).2
      have h4 := w.2.1.2 q0 _ he
      rw [← h3] at h4
      exact h4
    · exact X.2.2.1 q (Nat.le_trans w.2.2.1 h)
  have hE := fun av => EntN.at (av := av) X hP1
  have S := X.1
  have hts := S.2.2.2.2
  refine va_callv (va_runS (As := [.ref a, .int (i2 v)]) (rest := rest) S (k_fillN (l := l) (v0 := v0) (v := v) hn H.size) ⟨lk_B hts lk.1 ⟨rfl, rfl⟩ hR, hts _ lk.2⟩ ⟨EntN.blind, hE _⟩ rfl rfl hln rfl (lv_room hr8) dg hc) w.2.2 (fun q _ h => hF q h) hF (fun u t H1 locs1 ht hvm hw hB hz hk hS => ?_)
  rw [ht] at hB
  obtain ⟨hP, hD⟩ := wj_at (e1 := (arC a (aC 0) n v).2) w.1 w.2.1 he hk hB
  exact kk H1 locs1 ⟨hP, hD, hS⟩
theorem set_last {x y : Nat × va_E} : (w0 ++ [x]).set w0.length y = w0 ++ [y] := by
  rw [List.set_append_right _ _ (Nat.le_refl _), Nat.sub_self]
  rfl
theorem nz_filll {idx a n : Nat} {v0 v : Int} (X : CN p s m args c cc nL own D aC A H0) (w : WN D A H0 (w0 ++ [arC a (aC 0) n v0]) H locs) (hn : n ≤ 10000) (hv : inR v) (lk : LkS own idx yJ7_fill_53178 cJ7_fill_53178 4 none 2) (hR : 1 ≤ R.frames ∧ 23 ≤ R.locals) (hc : cells ≤ R.cells ∧ slots ≤ R.slots) (hln : ls.size = nL) (hr8 : (rest.map fun v => v.category).sum ≤ 8) (dg : decode cc pc = .ok (.invokestatic idx, 3))
    (kk : ∀ (H1 : Heap) (locs1 : List Loc), WN D A H0 (w0 ++ [arC a (aC 0) n v]) H1 locs1 → W p l e R s m args below meth c H1 locs1 cells slots Q (F0 m (pc + 3) ls rest)) : W p l e R s m args below meth c H locs cells slots Q (F0 m pc ls (.int (i2 v) :: .ref a :: rest)) :=
  nz_fill (q0 := w0.length) X w (by rw [List.getElem?_append_right (Nat.le_refl _), Nat.sub_self]; rfl) hn hv lk hR hc hln hr8 dg (fun H1 locs1 w => kk H1 locs1 (by rw [set_last] at w; exact w))
end FILLN
def bo_X1 : List Value := [.int (i2 0), .null, .null, .null, .null, .null, .null, .null, .null, .null, .null, .null, .null, .int (i2 0), .null]
theorem bv_X1 : ∀ j, j < 15 → defaultValue (tyX1 j) = vp_V bo_X1 j := fun j hj => match j, hj with
  | 0, _ => rfl
  | 1, _ => rfl
  | 2, _ => rfl
  | 3, _ => rfl
  | 4, _ => rfl
  | 5, _ => rfl
  | 6, _ => rfl
  | 7, _ => rfl
  | 8, _ => rfl
  | 9, _ => rfl
  | 10, _ => rfl
  | 11, _ => rfl
  | 12, _ => rfl
  | 13, _ => rfl
  | 14, _ => rfl
  | k + 15, h => absurd h (by omega)
theorem obw_X1 : Cond.methodLink RX1 3 objectInit ∈ BW ∧ Cond.instanceMethod objectInit ∈ BW ∧ Cond.code objectInit ⟨#[0xb1]⟩ 1 none ∈ BW := ⟨(BW_in (List.mem_of_getElem? (i := 135) (by decide +kernel)) rfl), (BW_in (List.mem_of_getElem? (i := 128) (by decide +kernel)) rfl), (BW_in (List.mem_of_getElem? (i := 129) (by decide +kernel)) rfl)⟩
theorem acw_int : Cond.arrayClass .int ∈ BW := (BW_in (List.mem_of_getElem? (i := 216) (by decide +kernel)) rfl)
theorem cp_X1_9 : FldF RX1 9 1 1 (.array .int) := ⟨RX1, TX1, 15, tyX1, rfl, by decide, rfl, rfl, in_X1, (BW_in (List.mem_of_getElem? (i := 143) (by decide +kernel)) rfl), tyX1_ok, nmX1, rfl, by decide +kernel⟩
theorem cp_X1_15 : FldF RX1 15 1 2 (.array .int) := ⟨RX1, TX1, 15, tyX1, rfl, by decide, rfl, rfl, in_X1, (BW_in (List.mem_of_getElem? (i := 146) (by decide +kernel)) rfl), tyX1_ok, nmX1, rfl, by decide +kernel⟩
theorem cp_X1_18 : FldF RX1 18 1 3 (.array .int) := ⟨RX1, TX1, 15, tyX1, rfl, by decide, rfl, rfl, in_X1, (BW_in (List.mem_of_getElem? (i := 149) (by decide +kernel)) rfl), tyX1_ok, nmX1, rfl, by decide +kernel⟩
theorem cp_X1_21 : FldF RX1 21 1 4 (.array .int) := ⟨RX1, TX1, 15, tyX1, rfl, by decide, rfl, rfl, in_X1, (BW_in (List.mem_of_getElem? (i := 152) (by decide +kernel)) rfl), tyX1_ok, nmX1, rfl, by decide +kernel⟩
theorem cp_X1_24 : FldF RX1 24 1 5 (.array .int) := ⟨RX1, TX1, 15, tyX1, rfl, by decide, rfl, rfl, in_X1, (BW_in (List.mem_of_getElem? (i := 154) (by decide +kernel)) rfl), tyX1_ok, nmX1, rfl, by decide +kernel⟩
theorem cp_X1_27 : FldF RX1 27 1 6 (.array .int) := ⟨RX1, TX1, 15, tyX1, rfl, by decide, rfl, rfl, in_X1, (BW_in (List.mem_of_getElem? (i := 157) (by decide +kernel)) rfl), tyX1_ok, nmX1, rfl, by decide +kernel⟩
theorem cp_X1_30 : FldF RX1 30 1 7 (.array .int) := ⟨RX1, TX1, 15, tyX1, rfl, by decide, rfl, rfl, in_X1, (BW_in (List.mem_of_getElem? (i := 159) (by decide +kernel)) rfl), tyX1_ok, nmX1, rfl, by decide +kernel⟩
theorem cp_X1_33 : FldF RX1 33 1 8 (.array .int) := ⟨RX1, TX1, 15, tyX1, rfl, by decide, rfl, rfl, in_X1, (BW_in (List.mem_of_getElem? (i := 162) (by decide +kernel)) rfl), tyX1_ok, nmX1, rfl, by decide +kernel⟩
theorem cp_X1_36 : FldF RX1 36 1 9 (.array .int) := ⟨RX1, TX1, 15, tyX1, rfl, by decide, rfl, rfl, in_X1, (BW_in (List.mem_of_getElem? (i := 165) (by decide +kernel)) rfl), tyX1_ok, nmX1, rfl, by decide +kernel⟩
theorem cp_X1_39 : FldF RX1 39 1 10 (.array .int) := ⟨RX1, TX1, 15, tyX1, rfl, by decide, rfl, rfl, in_X1, (BW_in (List.mem_of_getElem? (i := 169) (by decide +kernel)) rfl), tyX1_ok, nmX1, rfl, by decide +kernel⟩
theorem cp_X1_42 : FldF RX1 42 1 11 (.array .int) := ⟨RX1, TX1, 15, tyX1, rfl, by decide, rfl, rfl, in_X1, (BW_in (List.mem_of_getElem? (i := 172) (by decide +kernel)) rfl), tyX1_ok, nmX1, rfl, by decide +kernel⟩
theorem cp_X1_45 : FldF RX1 45 1 12 (.array .int) := ⟨RX1, TX1, 15, tyX1, rfl, by decide, rfl, rfl, in_X1, (BW_in (List.mem_of_getElem? (i := 174) (by decide +kernel)) rfl), tyX1_ok, nmX1, rfl, by decide +kernel⟩
theorem cp_X1_48 : FldP RX1 48 1 13 .int := ⟨RX1, TX1, 15, tyX1, rfl, by decide, rfl, in_X1, (BW_in (List.mem_of_getElem? (i := 176) (by decide +kernel)) rfl), tyX1_ok, nmX1, rfl, by decide +kernel⟩
theorem cp_X1_52 : FldF RX1 52 1 14 (.array .int) := ⟨RX1, TX1, 15, tyX1, rfl, by decide, rfl, rfl, in_X1, (BW_in (List.mem_of_getElem? (i := 181) (by decide +kernel)) rfl), tyX1_ok, nmX1, rfl, by decide +kernel⟩
theorem cg_X1_27 : FldG RX1 27 1 6 := ⟨RX1, TX1, 15, rfl, by decide, rfl, in_X1, (BW_in (List.mem_of_getElem? (i := 157) (by decide +kernel)) rfl)⟩
theorem lf_X1_55 : LkS RX1 55 yJ7_fill_53178 cJ7_fill_53178 4 none 2 := ⟨⟨(BW_in (List.mem_of_getElem? (i := 138) (by decide +kernel)) rfl), (BW_in (List.mem_of_getElem? (i := 136) (by decide +kernel)) rfl), (BW_in (List.mem_of_getElem? (i := 100) (by decide +kernel)) rfl), ⟨by decide +kernel, by decide +kernel, by decide +kernel⟩⟩, (BW_in (List.mem_of_getElem? (i := 137) (by decide +kernel)) rfl)⟩
theorem cg_X1_42 : FldG RX1 42 1 11 := ⟨RX1, TX1, 15, rfl, by decide, rfl, in_X1, (BW_in (List.mem_of_getElem? (i := 172) (by decide +kernel)) rfl)⟩
theorem cg_X1_45 : FldG RX1 45 1 12 := ⟨RX1, TX1, 15, rfl, by decide, rfl, in_X1, (BW_in (List.mem_of_getElem? (i := 174) (by decide +kernel)) rfl)⟩
theorem cg_X1_52 : FldG RX1 52 1 14 := ⟨RX1, TX1, 15, rfl, by decide, rfl, in_X1, (BW_in (List.mem_of_getElem? (i := 181) (by decide +kernel)) rfl)⟩
def rm_X1_init : Room := { frames := 1, cells := 13, slots := 370, locals := 60 }
def wX1 (aC : Nat → ClassId) (h0 : Nat) (u : Nat → Nat) : va_W := [(h0, .inr (1, [.int (i2 0), .ref (u 1), .ref (u 2), .ref (u 3), .ref (u 4), .ref (u 5), .ref (u 6), .ref (u 7), .ref (u 8), .ref (u 9), .ref (u 10), .ref (u 11), .ref (u 12), .int (i2 2), .ref (u 13)])), arC (u 1) (aC 0) 14 0, arC (u 2) (aC 0) 14 0, arC (u 3) (aC 0) 14 0, arC (u 4) (aC 0) 14 0, arC (u 5) (aC 0) 14 0, arC (u 6) (aC 0) 42 (-1), arC (u 7) (aC 0) 14 0, arC (u 8) (aC 0) 14 0, arC (u 9) (aC 0) 3 0, arC (u 10) (aC 0) 196 0, arC (u 11) (aC 0) 14 (-1), arC (u 12) (aC 0) 14 (-1), arC (u 13) (aC 0) 3 14]
set_option maxRecDepth 100000 in
set_option maxHeartbeats 4000000 in
theorem k_X1_init {l : Launch} {D : va_G} {aC : Nat → ClassId} (h0 : Nat) : MetN l D aC (Nat → Nat) yX1_init cX1_init 1 rm_X1_init rm_X1_init.cells rm_X1_init.slots h0 (.inr (1, bo_X1)) [] (wX1 aC h0) := by
  refine MetN.of (by decide +kernel) rfl (nle rfl) (fun p e s m args below meth c Q A H0 ls X hin hl w hret => ?_)
  have hx := X.1.1
  have hb := X.1.2.1
  replace hl : lv_has ls 1 [(0, .ref h0)] := hl
  refine lv_aload_n hx hb dX1_init_0 rfl (lv_at hl 0 rfl) ?_
  refine nz_obj X obw_X1 hl.1 ⟨nle rfl, nle rfl⟩ dX1_init_1 ?_
  refine lv_aload_n hx hb dX1_init_4 rfl (lv_at hl 0 rfl) ?_
  refine nz_bipush X dX1_init_5 (by decide) ?_
  refine nz_new_int (n := 14) X w acw_int (by decide) (nle rfl) (nle rfl) dX1_init_7 (fun q1 H w => ?_)
  have w : WN D A H0 ([(h0, .inr (1, [.int (i2 0), .null, .null, .null, .null, .null, .null, .null, .null, .null, .null, .null, .null, .int (i2 0), .null])), arC q1 (aC 0) 14 0]) H _ := w
  refine nz_putf (q0 := 0) X hin w rfl cp_X1_9 (nlt_ rfl) rfl rfl dX1_init_9 (fun H locs w => ?_)
  have w : WN D A H0 ([(h0, .inr (1, [.int (i2 0), .ref q1, .null, .null, .null, .null, .null, .null, .null, .null, .null, .null, .null, .int (i2 0), .null])), arC q1 (aC 0) 14 0]) H _ := w
  refine lv_aload_n hx hb dX1_init_12 rfl (lv_at hl 0 rfl) ?_
  refine nz_bipush X dX1_init_13 (by decide) ?_
  refine nz_new_int (n := 14) X w acw_int (by decide) (nle rfl) (nle rfl) dX1_init_15 (fun q2 H w => ?_)
  have w : WN D A H0 ([(h0, .inr (1, [.int (i2 0), .ref q1, .null, .null, .null, .null, .null, .null, .null, .null, .null, .null, .null, .int (i2 0), .null])), arC q1 (aC 0) 14 0, arC q2 (aC 0) 14 0]) H _ := w
  refine nz_putf (q0 := 0) X hin w rfl cp_X1_15 (nlt_ rfl) rfl rfl dX1_init_17 (fun H locs w => ?_)
  have w : WN D A H0 ([(h0, .inr (1, [.int (i2 0), .ref q1, .ref q2, .null, .null, .null, .null, .null, .null, .null, .null, .null, .null, .int (i2 0), .null])), arC q1 (aC 0) 14 0, arC q2 (aC 0) 14 0]) H _ := w
  refine lv_aload_n hx hb dX1_init_20 rfl (lv_at hl 0 rfl) ?_
  refine nz_bipush X dX1_init_21 (by decide) ?_
  refine nz_new_int (n := 14) X w acw_int (by decide) (nle rfl) (nle rfl) dX1_init_23 (fun q3 H w => ?_)
  have w : WN D A H0 ([(h0, .inr (1, [.int (i2 0), .ref q1, .ref q2, .null, .null, .null, .null, .null, .null, .null, .null, .null, .null, .int (i2 0), .null])), arC q1 (aC 0) 14 0, arC q2 (aC 0) 14 0, arC q3 (aC 0) 14 0]) H _ := w
  refine nz_putf (q0 := 0) X hin w rfl cp_X1_18 (nlt_ rfl) rfl rfl dX1_init_25 (fun H locs w => ?_)
  have w : WN D A H0 ([(h0, .inr (1, [.int (i2 0), .ref q1, .ref q2, .ref q3, .null, .null, .null, .null, .null, .null, .null, .null, .null, .int (i2 0), .null])), arC q1 (aC 0) 14 0, arC q2 (aC 0) 14 0, arC q3 (aC 0) 14 0]) H _ := w
  refine lv_aload_n hx hb dX1_init_28 rfl (lv_at hl 0 rfl) ?_
  refine nz_bipush X dX1_init_29 (by decide) ?_
  refine nz_new_int (n := 14) X w acw_int (by decide) (nle rfl) (nle rfl) dX1_init_31 (fun q4 H w => ?_)
  have w : WN D A H0 ([(h0, .inr (1, [.int (i2 0), .ref q1, .ref q2, .ref q3, .null, .null, .null, .null, .null, .null, .null, .null, .null, .int (i2 0), .null])), arC q1 (aC 0) 14 0, arC q2 (aC 0) 14 0, arC q3 (aC 0) 14 0, arC q4 (aC 0) 14 0]) H _ := w
  refine nz_putf (q0 := 0) X hin w rfl cp_X1_21 (nlt_ rfl) rfl rfl dX1_init_33 (fun H locs w => ?_)
  have w : WN D A H0 ([(h0, .inr (1, [.int (i2 0), .ref q1, .ref q2, .ref q3, .ref q4, .null, .null, .null, .null, .null, .null, .null, .null, .int (i2 0), .null])), arC q1 (aC 0) 14 0, arC q2 (aC 0) 14 0, arC q3 (aC 0) 14 0, arC q4 (aC 0) 14 0]) H _ := w
  refine lv_aload_n hx hb dX1_init_36 rfl (lv_at hl 0 rfl) ?_
  refine nz_bipush X dX1_init_37 (by decide) ?_
  refine nz_new_int (n := 14) X w acw_int (by decide) (nle rfl) (nle rfl) dX1_init_39 (fun q5 H w => ?_)
  have w : WN D A H0 ([(h0, .inr (1, [.int (i2 0), .ref q1, .ref q2, .ref q3, .ref q4, .null, .null, .null, .null, .null, .null, .null, .null, .int (i2 0), .null])), arC q1 (aC 0) 14 0, arC q2 (aC 0) 14 0, arC q3 (aC 0) 14 0, arC q4 (aC 0) 14 0, arC q5 (aC 0) 14 0]) H _ := w
  refine nz_putf (q0 := 0) X hin w rfl cp_X1_24 (nlt_ rfl) rfl rfl dX1_init_41 (fun H locs w => ?_)
  have w : WN D A H0 ([(h0, .inr (1, [.int (i2 0), .ref q1, .ref q2, .ref q3, .ref q4, .ref q5, .null, .null, .null, .null, .null, .null, .null, .int (i2 0), .null])), arC q1 (aC 0) 14 0, arC q2 (aC 0) 14 0, arC q3 (aC 0) 14 0, arC q4 (aC 0) 14 0, arC q5 (aC 0) 14 0]) H _ := w
  refine lv_aload_n hx hb dX1_init_44 rfl (lv_at hl 0 rfl) ?_
  refine nz_bipush X dX1_init_45 (by decide) ?_
  refine nz_new_int (n := 42) X w acw_int (by decide) (nle rfl) (nle rfl) dX1_init_47 (fun q6 H w => ?_)
  have w : WN D A H0 ([(h0, .inr (1, [.int (i2 0), .ref q1, .ref q2, .ref q3, .ref q4, .ref q5, .null, .null, .null, .null, .null, .null, .null, .int (i2 0), .null])), arC q1 (aC 0) 14 0, arC q2 (aC 0) 14 0, arC q3 (aC 0) 14 0, arC q4 (aC 0) 14 0, arC q5 (aC 0) 14 0, arC q6 (aC 0) 42 0]) H _ := w
  refine nz_putf (q0 := 0) X hin w rfl cp_X1_27 (nlt_ rfl) rfl rfl dX1_init_49 (fun H locs w => ?_)
  have w : WN D A H0 ([(h0, .inr (1, [.int (i2 0), .ref q1, .ref q2, .ref q3, .ref q4, .ref q5, .ref q6, .null, .null, .null, .null, .null, .null, .int (i2 0), .null])), arC q1 (aC 0) 14 0, arC q2 (aC 0) 14 0, arC q3 (aC 0) 14 0, arC q4 (aC 0) 14 0, arC q5 (aC 0) 14 0, arC q6 (aC 0) 42 0]) H _ := w
  refine lv_aload_n hx hb dX1_init_52 rfl (lv_at hl 0 rfl) ?_
  refine nz_bipush X dX1_init_53 (by decide) ?_
  refine nz_new_int (n := 14) X w acw_int (by decide) (nle rfl) (nle rfl) dX1_init_55 (fun q7 H w => ?_)
  have w : WN D A H0 ([(h0, .inr (1, [.int (i2 0), .ref q1, .ref q2, .ref q3, .ref q4, .ref q5, .ref q6, .null, .null, .null, .null, .null, .null, .int (i2 0), .null])), arC q1 (aC 0) 14 0, arC q2 (aC 0) 14 0, arC q3 (aC 0) 14 0, arC q4 (aC 0) 14 0, arC q5 (aC 0) 14 0, arC q6 (aC 0) 42 0, arC q7 (aC 0) 14 0]) H _ := w
  refine nz_putf (q0 := 0) X hin w rfl cp_X1_30 (nlt_ rfl) rfl rfl dX1_init_57 (fun H locs w => ?_)
  have w : WN D A H0 ([(h0, .inr (1, [.int (i2 0), .ref q1, .ref q2, .ref q3, .ref q4, .ref q5, .ref q6, .ref q7, .null, .null, .null, .null, .null, .int (i2 0), .null])), arC q1 (aC 0) 14 0, arC q2 (aC 0) 14 0, arC q3 (aC 0) 14 0, arC q4 (aC 0) 14 0, arC q5 (aC 0) 14 0, arC q6 (aC 0) 42 0, arC q7 (aC 0) 14 0]) H _ := w
  refine lv_aload_n hx hb dX1_init_60 rfl (lv_at hl 0 rfl) ?_
  refine nz_bipush X dX1_init_61 (by decide) ?_
  refine nz_new_int (n := 14) X w acw_int (by decide) (nle rfl) (nle rfl) dX1_init_63 (fun q8 H w => ?_)
  have w : WN D A H0 ([(h0, .inr (1, [.int (i2 0), .ref q1, .ref q2, .ref q3, .ref q4, .ref q5, .ref q6, .ref q7, .null, .null, .null, .null, .null, .int (i2 0), .null])), arC q1 (aC 0) 14 0, arC q2 (aC 0) 14 0, arC q3 (aC 0) 14 0, arC q4 (aC 0) 14 0, arC q5 (aC 0) 14 0, arC q6 (aC 0) 42 0, arC q7 (aC 0) 14 0, arC q8 (aC 0) 14 0]) H _ := w
  refine nz_putf (q0 := 0) X hin w rfl cp_X1_33 (nlt_ rfl) rfl rfl dX1_init_65 (fun H locs w => ?_)
  have w : WN D A H0 ([(h0, .inr (1, [.int (i2 0), .ref q1, .ref q2, .ref q3, .ref q4, .ref q5, .ref q6, .ref q7, .ref q8, .null, .null, .null, .null, .int (i2 0), .null])), arC q1 (aC 0) 14 0, arC q2 (aC 0) 14 0, arC q3 (aC 0) 14 0, arC q4 (aC 0) 14 0, arC q5 (aC 0) 14 0, arC q6 (aC 0) 42 0, arC q7 (aC 0) 14 0, arC q8 (aC 0) 14 0]) H _ := w
  refine lv_aload_n hx hb dX1_init_68 rfl (lv_at hl 0 rfl) ?_
  refine nz_iconst X dX1_init_69 ?_
  refine nz_new_int (n := 3) X w acw_int (by decide) (nle rfl) (nle rfl) dX1_init_70 (fun q9 H w => ?_)
  have w : WN D A H0 ([(h0, .inr (1, [.int (i2 0), .ref q1, .ref q2, .ref q3, .ref q4, .ref q5, .ref q6, .ref q7, .ref q8, .null, .null, .null, .null, .int (i2 0), .null])), arC q1 (aC 0) 14 0, arC q2 (aC 0) 14 0, arC q3 (aC 0) 14 0, arC q4 (aC 0) 14 0, arC q5 (aC 0) 14 0, arC q6 (aC 0) 42 0, arC q7 (aC 0) 14 0, arC q8 (aC 0) 14 0, arC q9 (aC 0) 3 0]) H _ := w
  refine nz_putf (q0 := 0) X hin w rfl cp_X1_36 (nlt_ rfl) rfl rfl dX1_init_72 (fun H locs w => ?_)
  have w : WN D A H0 ([(h0, .inr (1, [.int (i2 0), .ref q1, .ref q2, .ref q3, .ref q4, .ref q5, .ref q6, .ref q7, .ref q8, .ref q9, .null, .null, .null, .int (i2 0), .null])), arC q1 (aC 0) 14 0, arC q2 (aC 0) 14 0, arC q3 (aC 0) 14 0, arC q4 (aC 0) 14 0, arC q5 (aC 0) 14 0, arC q6 (aC 0) 42 0, arC q7 (aC 0) 14 0, arC q8 (aC 0) 14 0, arC q9 (aC 0) 3 0]) H _ := w
  refine lv_aload_n hx hb dX1_init_75 rfl (lv_at hl 0 rfl) ?_
  refine nz_sipush X dX1_init_76 (by decide) ?_
  refine nz_new_int (n := 196) X w acw_int (by decide) (nle rfl) (nle rfl) dX1_init_79 (fun q10 H w => ?_)
  have w : WN D A H0 ([(h0, .inr (1, [.int (i2 0), .ref q1, .ref q2, .ref q3, .ref q4, .ref q5, .ref q6, .ref q7, .ref q8, .ref q9, .null, .null, .null, .int (i2 0), .null])), arC q1 (aC 0) 14 0, arC q2 (aC 0) 14 0, arC q3 (aC 0) 14 0, arC q4 (aC 0) 14 0, arC q5 (aC 0) 14 0, arC q6 (aC 0) 42 0, arC q7 (aC 0) 14 0, arC q8 (aC 0) 14 0, arC q9 (aC 0) 3 0, arC q10 (aC 0) 196 0]) H _ := w
  refine nz_putf (q0 := 0) X hin w rfl cp_X1_39 (nlt_ rfl) rfl rfl dX1_init_81 (fun H locs w => ?_)
  have w : WN D A H0 ([(h0, .inr (1, [.int (i2 0), .ref q1, .ref q2, .ref q3, .ref q4, .ref q5, .ref q6, .ref q7, .ref q8, .ref q9, .ref q10, .null, .null, .int (i2 0), .null])), arC q1 (aC 0) 14 0, arC q2 (aC 0) 14 0, arC q3 (aC 0) 14 0, arC q4 (aC 0) 14 0, arC q5 (aC 0) 14 0, arC q6 (aC 0) 42 0, arC q7 (aC 0) 14 0, arC q8 (aC 0) 14 0, arC q9 (aC 0) 3 0, arC q10 (aC 0) 196 0]) H _ := w
  refine lv_aload_n hx hb dX1_init_84 rfl (lv_at hl 0 rfl) ?_
  refine nz_bipush X dX1_init_85 (by decide) ?_
  refine nz_new_int (n := 14) X w acw_int (by decide) (nle rfl) (nle rfl) dX1_init_87 (fun q11 H w => ?_)
  have w : WN D A H0 ([(h0, .inr (1, [.int (i2 0), .ref q1, .ref q2, .ref q3, .ref q4, .ref q5, .ref q6, .ref q7, .ref q8, .ref q9, .ref q10, .null, .null, .int (i2 0), .null])), arC q1 (aC 0) 14 0, arC q2 (aC 0) 14 0, arC q3 (aC 0) 14 0, arC q4 (aC 0) 14 0, arC q5 (aC 0) 14 0, arC q6 (aC 0) 42 0, arC q7 (aC 0) 14 0, arC q8 (aC 0) 14 0, arC q9 (aC 0) 3 0, arC q10 (aC 0) 196 0, arC q11 (aC 0) 14 0]) H _ := w
  refine nz_putf (q0 := 0) X hin w rfl cp_X1_42 (nlt_ rfl) rfl rfl dX1_init_89 (fun H locs w => ?_)
  have w : WN D A H0 ([(h0, .inr (1, [.int (i2 0), .ref q1, .ref q2, .ref q3, .ref q4, .ref q5, .ref q6, .ref q7, .ref q8, .ref q9, .ref q10, .ref q11, .null, .int (i2 0), .null])), arC q1 (aC 0) 14 0, arC q2 (aC 0) 14 0, arC q3 (aC 0) 14 0, arC q4 (aC 0) 14 0, arC q5 (aC 0) 14 0, arC q6 (aC 0) 42 0, arC q7 (aC 0) 14 0, arC q8 (aC 0) 14 0, arC q9 (aC 0) 3 0, arC q10 (aC 0) 196 0, arC q11 (aC 0) 14 0]) H _ := w
  refine lv_aload_n hx hb dX1_init_92 rfl (lv_at hl 0 rfl) ?_
  refine nz_bipush X dX1_init_93 (by decide) ?_
  refine nz_new_int (n := 14) X w acw_int (by decide) (nle rfl) (nle rfl) dX1_init_95 (fun q12 H w => ?_)
  have w : WN D A H0 ([(h0, .inr (1, [.int (i2 0), .ref q1, .ref q2, .ref q3, .ref q4, .ref q5, .ref q6, .ref q7, .ref q8, .ref q9, .ref q10, .ref q11, .null, .int (i2 0), .null])), arC q1 (aC 0) 14 0, arC q2 (aC 0) 14 0, arC q3 (aC 0) 14 0, arC q4 (aC 0) 14 0, arC q5 (aC 0) 14 0, arC q6 (aC 0) 42 0, arC q7 (aC 0) 14 0, arC q8 (aC 0) 14 0, arC q9 (aC 0) 3 0, arC q10 (aC 0) 196 0, arC q11 (aC 0) 14 0, arC q12 (aC 0) 14 0]) H _ := w
  refine nz_putf (q0 := 0) X hin w rfl cp_X1_45 (nlt_ rfl) rfl rfl dX1_init_97 (fun H locs w => ?_)
  have w : WN D A H0 ([(h0, .inr (1, [.int (i2 0), .ref q1, .ref q2, .ref q3, .ref q4, .ref q5, .ref q6, .ref q7, .ref q8, .ref q9, .ref q10, .ref q11, .ref q12, .int (i2 0), .null])), arC q1 (aC 0) 14 0, arC q2 (aC 0) 14 0, arC q3 (aC 0) 14 0, arC q4 (aC 0) 14 0, arC q5 (aC 0) 14 0, arC q6 (aC 0) 42 0, arC q7 (aC 0) 14 0, arC q8 (aC 0) 14 0, arC q9 (aC 0) 3 0, arC q10 (aC 0) 196 0, arC q11 (aC 0) 14 0, arC q12 (aC 0) 14 0]) H _ := w
  refine lv_aload_n hx hb dX1_init_100 rfl (lv_at hl 0 rfl) ?_
  refine nz_iconst X dX1_init_101 ?_
  refine nz_put (q0 := 0) X w rfl cp_X1_48 (nlt_ rfl) rfl rfl dX1_init_102 (fun H locs w => ?_)
  have w : WN D A H0 ([(h0, .inr (1, [.int (i2 0), .ref q1, .ref q2, .ref q3, .ref q4, .ref q5, .ref q6, .ref q7, .ref q8, .ref q9, .ref q10, .ref q11, .ref q12, .int (i2 2), .null])), arC q1 (aC 0) 14 0, arC q2 (aC 0) 14 0, arC q3 (aC 0) 14 0, arC q4 (aC 0) 14 0, arC q5 (aC 0) 14 0, arC q6 (aC 0) 42 0, arC q7 (aC 0) 14 0, arC q8 (aC 0) 14 0, arC q9 (aC 0) 3 0, arC q10 (aC 0) 196 0, arC q11 (aC 0) 14 0, arC q12 (aC 0) 14 0]) H _ := w
  refine lv_aload_n hx hb dX1_init_105 rfl (lv_at hl 0 rfl) ?_
  refine nz_iconst X dX1_init_106 ?_
  refine nz_new_int (n := 3) X w acw_int (by decide) (nle rfl) (nle rfl) dX1_init_107 (fun q13 H w => ?_)
  have w : WN D A H0 ([(h0, .inr (1, [.int (i2 0), .ref q1, .ref q2, .ref q3, .ref q4, .ref q5, .ref q6, .ref q7, .ref q8, .ref q9, .ref q10, .ref q11, .ref q12, .int (i2 2), .null])), arC q1 (aC 0) 14 0, arC q2 (aC 0) 14 0, arC q3 (aC 0) 14 0, arC q4 (aC 0) 14 0, arC q5 (aC 0) 14 0, arC q6 (aC 0) 42 0, arC q7 (aC 0) 14 0, arC q8 (aC 0) 14 0, arC q9 (aC 0) 3 0, arC q10 (aC 0) 196 0, arC q11 (aC 0) 14 0, arC q12 (aC 0) 14 0, arC q13 (aC 0) 3 0]) H _ := w
  refine nz_putf (q0 := 0) X hin w rfl cp_X1_52 (nlt_ rfl) rfl rfl dX1_init_109 (fun H locs w => ?_)
  have w : WN D A H0 ([(h0, .inr (1, [.int (i2 0), .ref q1, .ref q2, .ref q3, .ref q4, .ref q5, .ref q6, .ref q7, .ref q8, .ref q9, .ref q10, .ref q11, .ref q12, .int (i2 2), .ref q13])), arC q1 (aC 0) 14 0, arC q2 (aC 0) 14 0, arC q3 (aC 0) 14 0, arC q4 (aC 0) 14 0, arC q5 (aC 0) 14 0, arC q6 (aC 0) 42 0, arC q7 (aC 0) 14 0, arC q8 (aC 0) 14 0, arC q9 (aC 0) 3 0, arC q10 (aC 0) 196 0, arC q11 (aC 0) 14 0, arC q12 (aC 0) 14 0, arC q13 (aC 0) 3 0]) H _ := w
  refine lv_aload_n hx hb dX1_init_112 rfl (lv_at hl 0 rfl) ?_
  refine nz_get (q0 := 0) X w rfl cg_X1_27 rfl dX1_init_113 ?_
  refine nz_iconst X dX1_init_116 ?_
  refine nz_fill (q0 := 6) (n := 42) (v0 := 0) (v := (-1)) X w rfl (by decide) (inL rfl) lf_X1_55 ⟨nle rfl, nle rfl⟩ ⟨nle rfl, nle rfl⟩ hl.1 (nle rfl) dX1_init_117 (fun H locs w => ?_)
  have w : WN D A H0 ([(h0, .inr (1, [.int (i2 0), .ref q1, .ref q2, .ref q3, .ref q4, .ref q5, .ref q6, .ref q7, .ref q8, .ref q9, .ref q10, .ref q11, .ref q12, .int (i2 2), .ref q13])), arC q1 (aC 0) 14 0, arC q2 (aC 0) 14 0, arC q3 (aC 0) 14 0, arC q4 (aC 0) 14 0, arC q5 (aC 0) 14 0, arC q6 (aC 0) 42 (-1), arC q7 (aC 0) 14 0, arC q8 (aC 0) 14 0, arC q9 (aC 0) 3 0, arC q10 (aC 0) 196 0, arC q11 (aC 0) 14 0, arC q12 (aC 0) 14 0, arC q13 (aC 0) 3 0]) H _ := w
  refine lv_aload_n hx hb dX1_init_120 rfl (lv_at hl 0 rfl) ?_
  refine nz_get (q0 := 0) X w rfl cg_X1_42 rfl dX1_init_121 ?_
  refine nz_iconst X dX1_init_124 ?_
  refine nz_fill (q0 := 11) (n := 14) (v0 := 0) (v := (-1)) X w rfl (by decide) (inL rfl) lf_X1_55 ⟨nle rfl, nle rfl⟩ ⟨nle rfl, nle rfl⟩ hl.1 (nle rfl) dX1_init_125 (fun H locs w => ?_)
  have w : WN D A H0 ([(h0, .inr (1, [.int (i2 0), .ref q1, .ref q2, .ref q3, .ref q4, .ref q5, .ref q6, .ref q7, .ref q8, .ref q9, .ref q10, .ref q11, .ref q12, .int (i2 2), .ref q13])), arC q1 (aC 0) 14 0, arC q2 (aC 0) 14 0, arC q3 (aC 0) 14 0, arC q4 (aC 0) 14 0, arC q5 (aC 0) 14 0, arC q6 (aC 0) 42 (-1), arC q7 (aC 0) 14 0, arC q8 (aC 0) 14 0, arC q9 (aC 0) 3 0, arC q10 (aC 0) 196 0, arC q11 (aC 0) 14 (-1), arC q12 (aC 0) 14 0, arC q13 (aC 0) 3 0]) H _ := w
  refine lv_aload_n hx hb dX1_init_128 rfl (lv_at hl 0 rfl) ?_
  refine nz_get (q0 := 0) X w rfl cg_X1_45 rfl dX1_init_129 ?_
  refine nz_iconst X dX1_init_132 ?_
  refine nz_fill (q0 := 12) (n := 14) (v0 := 0) (v := (-1)) X w rfl (by decide) (inL rfl) lf_X1_55 ⟨nle rfl, nle rfl⟩ ⟨nle rfl, nle rfl⟩ hl.1 (nle rfl) dX1_init_133 (fun H locs w => ?_)
  have w : WN D A H0 ([(h0, .inr (1, [.int (i2 0), .ref q1, .ref q2, .ref q3, .ref q4, .ref q5, .ref q6, .ref q7, .ref q8, .ref q9, .ref q10, .ref q11, .ref q12, .int (i2 2), .ref q13])), arC q1 (aC 0) 14 0, arC q2 (aC 0) 14 0, arC q3 (aC 0) 14 0, arC q4 (aC 0) 14 0, arC q5 (aC 0) 14 0, arC q6 (aC 0) 42 (-1), arC q7 (aC 0) 14 0, arC q8 (aC 0) 14 0, arC q9 (aC 0) 3 0, arC q10 (aC 0) 196 0, arC q11 (aC 0) 14 (-1), arC q12 (aC 0) 14 (-1), arC q13 (aC 0) 3 0]) H _ := w
  refine lv_aload_n hx hb dX1_init_136 rfl (lv_at hl 0 rfl) ?_
  refine nz_get (q0 := 0) X w rfl cg_X1_52 rfl dX1_init_137 ?_
  refine nz_bipush X dX1_init_140 (by decide) ?_
  refine nz_fill (q0 := 13) (n := 3) (v0 := 0) (v := 14) X w rfl (by decide) (inL rfl) lf_X1_55 ⟨nle rfl, nle rfl⟩ ⟨nle rfl, nle rfl⟩ hl.1 (nle rfl) dX1_init_142 (fun H locs w => ?_)
  have w : WN D A H0 ([(h0, .inr (1, [.int (i2 0), .ref q1, .ref q2, .ref q3, .ref q4, .ref q5, .ref q6, .ref q7, .ref q8, .ref q9, .ref q10, .ref q11, .ref q12, .int (i2 2), .ref q13])), arC q1 (aC 0) 14 0, arC q2 (aC 0) 14 0, arC q3 (aC 0) 14 0, arC q4 (aC 0) 14 0, arC q5 (aC 0) 14 0, arC q6 (aC 0) 42 (-1), arC q7 (aC 0) 14 0, arC q8 (aC 0) 14 0, arC q9 (aC 0) 3 0, arC q10 (aC 0) 196 0, arC q11 (aC 0) 14 (-1), arC q12 (aC 0) 14 (-1), arC q13 (aC 0) 3 14]) H _ := w
  exact hret (fun k => [h0, q1, q2, q3, q4, q5, q6, q7, q8, q9, q10, q11, q12, q13].getD k 0) H _ 145 ls w dX1_init_145
def bo_X5 : List Value := [.int (i2 0), .null, .null, .null, .null, .null, .null]
theorem bv_X5 : ∀ j, j < 7 → defaultValue (tyX5 j) = vp_V bo_X5 j := fun j hj => match j, hj with
  | 0, _ => rfl
  | 1, _ => rfl
  | 2, _ => rfl
  | 3, _ => rfl
  | 4, _ => rfl
  | 5, _ => rfl
  | 6, _ => rfl
  | k + 7, h => absurd h (by omega)
theorem obw_X5 : Cond.methodLink RX5 3 objectInit ∈ BW ∧ Cond.instanceMethod objectInit ∈ BW ∧ Cond.code objectInit ⟨#[0xb1]⟩ 1 none ∈ BW := ⟨(BW_in (List.mem_of_getElem? (i := 222) (by decide +kernel)) rfl), (BW_in (List.mem_of_getElem? (i := 128) (by decide +kernel)) rfl), (BW_in (List.mem_of_getElem? (i := 129) (by decide +kernel)) rfl)⟩
theorem cp_X5_11 : FldF RX5 11 5 1 (.array .int) := ⟨RX5, TX5, 7, tyX5, rfl, by decide, rfl, rfl, in_X5, (BW_in (List.mem_of_getElem? (i := 225) (by decide +kernel)) rfl), tyX5_ok, nmX5, rfl, by decide +kernel⟩
theorem cp_X5_15 : FldF RX5 15 5 2 (.array .int) := ⟨RX5, TX5, 7, tyX5, rfl, by decide, rfl, rfl, in_X5, (BW_in (List.mem_of_getElem? (i := 226) (by decide +kernel)) rfl), tyX5_ok, nmX5, rfl, by decide +kernel⟩
theorem cp_X5_18 : FldF RX5 18 5 3 (.array .int) := ⟨RX5, TX5, 7, tyX5, rfl, by decide, rfl, rfl, in_X5, (BW_in (List.mem_of_getElem? (i := 227) (by decide +kernel)) rfl), tyX5_ok, nmX5, rfl, by decide +kernel⟩
theorem cp_X5_21 : FldF RX5 21 5 4 (.array .int) := ⟨RX5, TX5, 7, tyX5, rfl, by decide, rfl, rfl, in_X5, (BW_in (List.mem_of_getElem? (i := 228) (by decide +kernel)) rfl), tyX5_ok, nmX5, rfl, by decide +kernel⟩
theorem cp_X5_24 : FldF RX5 24 5 5 (.array .int) := ⟨RX5, TX5, 7, tyX5, rfl, by decide, rfl, rfl, in_X5, (BW_in (List.mem_of_getElem? (i := 229) (by decide +kernel)) rfl), tyX5_ok, nmX5, rfl, by decide +kernel⟩
theorem cp_X5_27 : FldF RX5 27 5 6 (.array .int) := ⟨RX5, TX5, 7, tyX5, rfl, by decide, rfl, rfl, in_X5, (BW_in (List.mem_of_getElem? (i := 230) (by decide +kernel)) rfl), tyX5_ok, nmX5, rfl, by decide +kernel⟩
def rm_X5_init : Room := { frames := 1, cells := 6, slots := 1612, locals := 60 }
def wX5 (aC : Nat → ClassId) (h0 : Nat) (u : Nat → Nat) : va_W := [(h0, .inr (5, [.int (i2 0), .ref (u 1), .ref (u 2), .ref (u 3), .ref (u 4), .ref (u 5), .ref (u 6)])), arC (u 1) (aC 0) 300 0, arC (u 2) (aC 0) 300 0, arC (u 3) (aC 0) 300 0, arC (u 4) (aC 0) 300 0, arC (u 5) (aC 0) 300 0, arC (u 6) (aC 0) 112 0]
set_option maxRecDepth 100000 in
set_option maxHeartbeats 4000000 in
theorem k_X5_init {l : Launch} {D : va_G} {aC : Nat → ClassId} (h0 : Nat) : MetN l D aC (Nat → Nat) yX5_init cX5_init 1 rm_X5_init rm_X5_init.cells rm_X5_init.slots h0 (.inr (5, bo_X5)) [] (wX5 aC h0) := by
  refine MetN.of (by decide +kernel) rfl (nle rfl) (fun p e s m args below meth c Q A H0 ls X hin hl w hret => ?_)
  have hx := X.1.1
  have hb := X.1.2.1
  replace hl : lv_has ls 1 [(0, .ref h0)] := hl
  refine lv_aload_n hx hb dX5_init_0 rfl (lv_at hl 0 rfl) ?_
  refine nz_obj X obw_X5 hl.1 ⟨nle rfl, nle rfl⟩ dX5_init_1 ?_
  refine lv_aload_n hx hb dX5_init_4 rfl (lv_at hl 0 rfl) ?_
  refine nz_sipush X dX5_init_5 (by decide) ?_
  refine nz_new_int (n := 300) X w acw_int (by decide) (nle rfl) (nle rfl) dX5_init_8 (fun q1 H w => ?_)
  have w : WN D A H0 ([(h0, .inr (5, [.int (i2 0), .null, .null, .null, .null, .null, .null])), arC q1 (aC 0) 300 0]) H _ := w
  refine nz_putf (q0 := 0) X hin w rfl cp_X5_11 (nlt_ rfl) rfl rfl dX5_init_10 (fun H locs w => ?_)
  have w : WN D A H0 ([(h0, .inr (5, [.int (i2 0), .ref q1, .null, .null, .null, .null, .null])), arC q1 (aC 0) 300 0]) H _ := w
  refine lv_aload_n hx hb dX5_init_13 rfl (lv_at hl 0 rfl) ?_
  refine nz_sipush X dX5_init_14 (by decide) ?_
  refine nz_new_int (n := 300) X w acw_int (by decide) (nle rfl) (nle rfl) dX5_init_17 (fun q2 H w => ?_)
  have w : WN D A H0 ([(h0, .inr (5, [.int (i2 0), .ref q1, .null, .null, .null, .null, .null])), arC q1 (aC 0) 300 0, arC q2 (aC 0) 300 0]) H _ := w
  refine nz_putf (q0 := 0) X hin w rfl cp_X5_15 (nlt_ rfl) rfl rfl dX5_init_19 (fun H locs w => ?_)
  have w : WN D A H0 ([(h0, .inr (5, [.int (i2 0), .ref q1, .ref q2, .null, .null, .null, .null])), arC q1 (aC 0) 300 0, arC q2 (aC 0) 300 0]) H _ := w
  refine lv_aload_n hx hb dX5_init_22 rfl (lv_at hl 0 rfl) ?_
  refine nz_sipush X dX5_init_23 (by decide) ?_
  refine nz_new_int (n := 300) X w acw_int (by decide) (nle rfl) (nle rfl) dX5_init_26 (fun q3 H w => ?_)
  have w : WN D A H0 ([(h0, .inr (5, [.int (i2 0), .ref q1, .ref q2, .null, .null, .null, .null])), arC q1 (aC 0) 300 0, arC q2 (aC 0) 300 0, arC q3 (aC 0) 300 0]) H _ := w
  refine nz_putf (q0 := 0) X hin w rfl cp_X5_18 (nlt_ rfl) rfl rfl dX5_init_28 (fun H locs w => ?_)
  have w : WN D A H0 ([(h0, .inr (5, [.int (i2 0), .ref q1, .ref q2, .ref q3, .null, .null, .null])), arC q1 (aC 0) 300 0, arC q2 (aC 0) 300 0, arC q3 (aC 0) 300 0]) H _ := w
  refine lv_aload_n hx hb dX5_init_31 rfl (lv_at hl 0 rfl) ?_
  refine nz_sipush X dX5_init_32 (by decide) ?_
  refine nz_new_int (n := 300) X w acw_int (by decide) (nle rfl) (nle rfl) dX5_init_35 (fun q4 H w => ?_)
  have w : WN D A H0 ([(h0, .inr (5, [.int (i2 0), .ref q1, .ref q2, .ref q3, .null, .null, .null])), arC q1 (aC 0) 300 0, arC q2 (aC 0) 300 0, arC q3 (aC 0) 300 0, arC q4 (aC 0) 300 0]) H _ := w
  refine nz_putf (q0 := 0) X hin w rfl cp_X5_21 (nlt_ rfl) rfl rfl dX5_init_37 (fun H locs w => ?_)
  have w : WN D A H0 ([(h0, .inr (5, [.int (i2 0), .ref q1, .ref q2, .ref q3, .ref q4, .null, .null])), arC q1 (aC 0) 300 0, arC q2 (aC 0) 300 0, arC q3 (aC 0) 300 0, arC q4 (aC 0) 300 0]) H _ := w
  refine lv_aload_n hx hb dX5_init_40 rfl (lv_at hl 0 rfl) ?_
  refine nz_sipush X dX5_init_41 (by decide) ?_
  refine nz_new_int (n := 300) X w acw_int (by decide) (nle rfl) (nle rfl) dX5_init_44 (fun q5 H w => ?_)
  have w : WN D A H0 ([(h0, .inr (5, [.int (i2 0), .ref q1, .ref q2, .ref q3, .ref q4, .null, .null])), arC q1 (aC 0) 300 0, arC q2 (aC 0) 300 0, arC q3 (aC 0) 300 0, arC q4 (aC 0) 300 0, arC q5 (aC 0) 300 0]) H _ := w
  refine nz_putf (q0 := 0) X hin w rfl cp_X5_24 (nlt_ rfl) rfl rfl dX5_init_46 (fun H locs w => ?_)
  have w : WN D A H0 ([(h0, .inr (5, [.int (i2 0), .ref q1, .ref q2, .ref q3, .ref q4, .ref q5, .null])), arC q1 (aC 0) 300 0, arC q2 (aC 0) 300 0, arC q3 (aC 0) 300 0, arC q4 (aC 0) 300 0, arC q5 (aC 0) 300 0]) H _ := w
  refine lv_aload_n hx hb dX5_init_49 rfl (lv_at hl 0 rfl) ?_
  refine nz_bipush X dX5_init_50 (by decide) ?_
  refine nz_new_int (n := 112) X w acw_int (by decide) (nle rfl) (nle rfl) dX5_init_52 (fun q6 H w => ?_)
  have w : WN D A H0 ([(h0, .inr (5, [.int (i2 0), .ref q1, .ref q2, .ref q3, .ref q4, .ref q5, .null])), arC q1 (aC 0) 300 0, arC q2 (aC 0) 300 0, arC q3 (aC 0) 300 0, arC q4 (aC 0) 300 0, arC q5 (aC 0) 300 0, arC q6 (aC 0) 112 0]) H _ := w
  refine nz_putf (q0 := 0) X hin w rfl cp_X5_27 (nlt_ rfl) rfl rfl dX5_init_54 (fun H locs w => ?_)
  have w : WN D A H0 ([(h0, .inr (5, [.int (i2 0), .ref q1, .ref q2, .ref q3, .ref q4, .ref q5, .ref q6])), arC q1 (aC 0) 300 0, arC q2 (aC 0) 300 0, arC q3 (aC 0) 300 0, arC q4 (aC 0) 300 0, arC q5 (aC 0) 300 0, arC q6 (aC 0) 112 0]) H _ := w
  exact hret (fun k => [h0, q1, q2, q3, q4, q5, q6].getD k 0) H _ 57 ls w dX5_init_57
def bo_X9 : List Value := [.int (i2 0), .null, .int (i2 0), .null, .null, .null]
theorem bv_X9 : ∀ j, j < 6 → defaultValue (tyX9 j) = vp_V bo_X9 j := fun j hj => match j, hj with
  | 0, _ => rfl
  | 1, _ => rfl
  | 2, _ => rfl
  | 3, _ => rfl
  | 4, _ => rfl
  | 5, _ => rfl
  | k + 6, h => absurd h (by omega)
theorem obw_X9 : Cond.methodLink RX9 3 objectInit ∈ BW ∧ Cond.instanceMethod objectInit ∈ BW ∧ Cond.code objectInit ⟨#[0xb1]⟩ 1 none ∈ BW := ⟨(BW_in (List.mem_of_getElem? (i := 251) (by decide +kernel)) rfl), (BW_in (List.mem_of_getElem? (i := 128) (by decide +kernel)) rfl), (BW_in (List.mem_of_getElem? (i := 129) (by decide +kernel)) rfl)⟩
theorem acw_char : Cond.arrayClass .char ∈ BW := (BW_in (List.mem_of_getElem? (i := 276) (by decide +kernel)) rfl)
theorem cp_X9_11 : FldF RX9 11 9 1 (.array .char) := ⟨RX9, TX9, 6, tyX9, rfl, by decide, rfl, rfl, in_X9, (BW_in (List.mem_of_getElem? (i := 254) (by decide +kernel)) rfl), tyX9_ok, nmX9, rfl, by decide +kernel⟩
theorem cp_X9_15 : FldF RX9 15 9 3 (.array .int) := ⟨RX9, TX9, 6, tyX9, rfl, by decide, rfl, rfl, in_X9, (BW_in (List.mem_of_getElem? (i := 257) (by decide +kernel)) rfl), tyX9_ok, nmX9, rfl, by decide +kernel⟩
theorem cp_X9_19 : FldF RX9 19 9 4 (.array .int) := ⟨RX9, TX9, 6, tyX9, rfl, by decide, rfl, rfl, in_X9, (BW_in (List.mem_of_getElem? (i := 259) (by decide +kernel)) rfl), tyX9_ok, nmX9, rfl, by decide +kernel⟩
theorem cp_X9_22 : FldF RX9 22 9 5 (.array .int) := ⟨RX9, TX9, 6, tyX9, rfl, by decide, rfl, rfl, in_X9, (BW_in (List.mem_of_getElem? (i := 261) (by decide +kernel)) rfl), tyX9_ok, nmX9, rfl, by decide +kernel⟩
def rm_X9_init : Room := { frames := 1, cells := 4, slots := 1603, locals := 60 }
def wX9 (aC : Nat → ClassId) (h0 : Nat) (u : Nat → Nat) : va_W := [(h0, .inr (9, [.int (i2 0), .ref (u 1), .int (i2 0), .ref (u 2), .ref (u 3), .ref (u 4)])), arC (u 1) (aC 2) 400 0, arC (u 2) (aC 0) 401 0, arC (u 3) (aC 0) 401 0, arC (u 4) (aC 0) 401 0]
set_option maxRecDepth 100000 in
set_option maxHeartbeats 4000000 in
theorem k_X9_init {l : Launch} {D : va_G} {aC : Nat → ClassId} (h0 : Nat) : MetN l D aC (Nat → Nat) yX9_init cX9_init 1 rm_X9_init rm_X9_init.cells rm_X9_init.slots h0 (.inr (9, bo_X9)) [] (wX9 aC h0) := by
  refine MetN.of (by decide +kernel) rfl (nle rfl) (fun p e s m args below meth c Q A H0 ls X hin hl w hret => ?_)
  have hx := X.1.1
  have hb := X.1.2.1
  replace hl : lv_has ls 1 [(0, .ref h0)] := hl
  refine lv_aload_n hx hb dX9_init_0 rfl (lv_at hl 0 rfl) ?_
  refine nz_obj X obw_X9 hl.1 ⟨nle rfl, nle rfl⟩ dX9_init_1 ?_
  refine lv_aload_n hx hb dX9_init_4 rfl (lv_at hl 0 rfl) ?_
  refine nz_sipush X dX9_init_5 (by decide) ?_
  refine nz_new_char (n := 400) X w acw_char (by decide) (nle rfl) (nle rfl) dX9_init_8 (fun q1 H w => ?_)
  have w : WN D A H0 ([(h0, .inr (9, [.int (i2 0), .null, .int (i2 0), .null, .null, .null])), arC q1 (aC 2) 400 0]) H _ := w
  refine nz_putf (q0 := 0) X hin w rfl cp_X9_11 (nlt_ rfl) rfl rfl dX9_init_10 (fun H locs w => ?_)
  have w : WN D A H0 ([(h0, .inr (9, [.int (i2 0), .ref q1, .int (i2 0), .null, .null, .null])), arC q1 (aC 2) 400 0]) H _ := w
  refine lv_aload_n hx hb dX9_init_13 rfl (lv_at hl 0 rfl) ?_
  refine nz_sipush X dX9_init_14 (by decide) ?_
  refine nz_new_int (n := 401) X w acw_int (by decide) (nle rfl) (nle rfl) dX9_init_17 (fun q2 H w => ?_)
  have w : WN D A H0 ([(h0, .inr (9, [.int (i2 0), .ref q1, .int (i2 0), .null, .null, .null])), arC q1 (aC 2) 400 0, arC q2 (aC 0) 401 0]) H _ := w
  refine nz_putf (q0 := 0) X hin w rfl cp_X9_15 (nlt_ rfl) rfl rfl dX9_init_19 (fun H locs w => ?_)
  have w : WN D A H0 ([(h0, .inr (9, [.int (i2 0), .ref q1, .int (i2 0), .ref q2, .null, .null])), arC q1 (aC 2) 400 0, arC q2 (aC 0) 401 0]) H _ := w
  refine lv_aload_n hx hb dX9_init_22 rfl (lv_at hl 0 rfl) ?_
  refine nz_sipush X dX9_init_23 (by decide) ?_
  refine nz_new_int (n := 401) X w acw_int (by decide) (nle rfl) (nle rfl) dX9_init_26 (fun q3 H w => ?_)
  have w : WN D A H0 ([(h0, .inr (9, [.int (i2 0), .ref q1, .int (i2 0), .ref q2, .null, .null])), arC q1 (aC 2) 400 0, arC q2 (aC 0) 401 0, arC q3 (aC 0) 401 0]) H _ := w
  refine nz_putf (q0 := 0) X hin w rfl cp_X9_19 (nlt_ rfl) rfl rfl dX9_init_28 (fun H locs w => ?_)
  have w : WN D A H0 ([(h0, .inr (9, [.int (i2 0), .ref q1, .int (i2 0), .ref q2, .ref q3, .null])), arC q1 (aC 2) 400 0, arC q2 (aC 0) 401 0, arC q3 (aC 0) 401 0]) H _ := w
  refine lv_aload_n hx hb dX9_init_31 rfl (lv_at hl 0 rfl) ?_
  refine nz_sipush X dX9_init_32 (by decide) ?_
  refine nz_new_int (n := 401) X w acw_int (by decide) (nle rfl) (nle rfl) dX9_init_35 (fun q4 H w => ?_)
  have w : WN D A H0 ([(h0, .inr (9, [.int (i2 0), .ref q1, .int (i2 0), .ref q2, .ref q3, .null])), arC q1 (aC 2) 400 0, arC q2 (aC 0) 401 0, arC q3 (aC 0) 401 0, arC q4 (aC 0) 401 0]) H _ := w
  refine nz_putf (q0 := 0) X hin w rfl cp_X9_22 (nlt_ rfl) rfl rfl dX9_init_37 (fun H locs w => ?_)
  have w : WN D A H0 ([(h0, .inr (9, [.int (i2 0), .ref q1, .int (i2 0), .ref q2, .ref q3, .ref q4])), arC q1 (aC 2) 400 0, arC q2 (aC 0) 401 0, arC q3 (aC 0) 401 0, arC q4 (aC 0) 401 0]) H _ := w
  exact hret (fun k => [h0, q1, q2, q3, q4].getD k 0) H _ 40 ls w dX9_init_40
def bo_X6 : List Value := [.int (i2 0), .int (i2 0), .null, .null, .int (i2 0), .int (i2 0), .int (i2 0), .int (i2 0)]
theorem bv_X6 : ∀ j, j < 8 → defaultValue (tyX6 j) = vp_V bo_X6 j := fun j hj => match j, hj with
  | 0, _ => rfl
  | 1, _ => rfl
  | 2, _ => rfl
  | 3, _ => rfl
  | 4, _ => rfl
  | 5, _ => rfl
  | 6, _ => rfl
  | 7, _ => rfl
  | k + 8, h => absurd h (by omega)
theorem obw_X6 : Cond.methodLink RX6 3 objectInit ∈ BW ∧ Cond.instanceMethod objectInit ∈ BW ∧ Cond.code objectInit ⟨#[0xb1]⟩ 1 none ∈ BW := ⟨(BW_in (List.mem_of_getElem? (i := 282) (by decide +kernel)) rfl), (BW_in (List.mem_of_getElem? (i := 128) (by decide +kernel)) rfl), (BW_in (List.mem_of_getElem? (i := 129) (by decide +kernel)) rfl)⟩
theorem cp_X6_9 : FldP RX6 9 6 1 .int := ⟨RX6, TX6, 8, tyX6, rfl, by decide, rfl, in_X6, (BW_in (List.mem_of_getElem? (i := 285) (by decide +kernel)) rfl), tyX6_ok, nmX6, rfl, by decide +kernel⟩
theorem cp_X6_15 : FldF RX6 15 6 2 (.object "ClassMaker$Tape") := ⟨RX6, TX6, 8, tyX6, rfl, by decide, rfl, rfl, in_X6, (BW_in (List.mem_of_getElem? (i := 287) (by decide +kernel)) rfl), tyX6_ok, nmX6, rfl, by decide +kernel⟩
def rm_X6_init : Room := { frames := 1, cells := 0, slots := 0, locals := 60 }
def wX6 (aC : Nat → ClassId) (h0 a1 : Nat) (u : Nat → Nat) : va_W := [(h0, .inr (6, [.int (i2 0), .int (i2 (-1)), .ref a1, .null, .int (i2 0), .int (i2 0), .int (i2 0), .int (i2 0)]))]
set_option maxRecDepth 100000 in
set_option maxHeartbeats 4000000 in
theorem k_X6_init {l : Launch} {D : va_G} {aC : Nat → ClassId} (h0 a1 : Nat) : MetN l D aC (Nat → Nat) yX6_init cX6_init 2 rm_X6_init rm_X6_init.cells rm_X6_init.slots h0 (.inr (6, bo_X6)) [.ref a1] (wX6 aC h0 a1) := by
  refine MetN.of (by decide +kernel) rfl (nle rfl) (fun p e s m args below meth c Q A H0 ls X hin hl w hret => ?_)
  have hx := X.1.1
  have hb := X.1.2.1
  replace hl : lv_has ls 2 [(0, .ref h0), (1, .ref a1)] := hl
  refine lv_aload_n hx hb dX6_init_0 rfl (lv_at hl 0 rfl) ?_
  refine nz_obj X obw_X6 hl.1 ⟨nle rfl, nle rfl⟩ dX6_init_1 ?_
  refine lv_aload_n hx hb dX6_init_4 rfl (lv_at hl 0 rfl) ?_
  refine nz_iconst X dX6_init_5 ?_
  refine nz_put (q0 := 0) X w rfl cp_X6_9 (nlt_ rfl) rfl rfl dX6_init_6 (fun H locs w => ?_)
  have w : WN D A H0 ([(h0, .inr (6, [.int (i2 0), .int (i2 (-1)), .null, .null, .int (i2 0), .int (i2 0), .int (i2 0), .int (i2 0)]))]) H _ := w
  refine lv_aload_n hx hb dX6_init_9 rfl (lv_at hl 0 rfl) ?_
  refine lv_aload_n hx hb dX6_init_10 rfl (lv_at hl 1 rfl) ?_
  refine nz_putf (q0 := 0) X hin w rfl cp_X6_15 (nlt_ rfl) rfl rfl dX6_init_11 (fun H locs w => ?_)
  have w : WN D A H0 ([(h0, .inr (6, [.int (i2 0), .int (i2 (-1)), .ref a1, .null, .int (i2 0), .int (i2 0), .int (i2 0), .int (i2 0)]))]) H _ := w
  exact hret (fun k => [h0].getD k 0) H _ 14 ls w dX6_init_14
def bo_X4 : List Value := [.null, .null, .null, .int (i2 0), .null, .null, .null, .null]
theorem bv_X4 : ∀ j, j < 8 → defaultValue (tyX4 j) = vp_V bo_X4 j := fun j hj => match j, hj with
  | 0, _ => rfl
  | 1, _ => rfl
  | 2, _ => rfl
  | 3, _ => rfl
  | 4, _ => rfl
  | 5, _ => rfl
  | 6, _ => rfl
  | 7, _ => rfl
  | k + 8, h => absurd h (by omega)
theorem obw_X4 : Cond.methodLink RX4 3 objectInit ∈ BW ∧ Cond.instanceMethod objectInit ∈ BW ∧ Cond.code objectInit ⟨#[0xb1]⟩ 1 none ∈ BW := ⟨(BW_in (List.mem_of_getElem? (i := 315) (by decide +kernel)) rfl), (BW_in (List.mem_of_getElem? (i := 128) (by decide +kernel)) rfl), (BW_in (List.mem_of_getElem? (i := 129) (by decide +kernel)) rfl)⟩
theorem cp_X4_11 : FldF RX4 11 4 4 (.array .int) := ⟨RX4, TX4, 8, tyX4, rfl, by decide, rfl, rfl, in_X4, (BW_in (List.mem_of_getElem? (i := 321) (by decide +kernel)) rfl), tyX4_ok, nmX4, rfl, by decide +kernel⟩
theorem cp_X4_15 : FldF RX4 15 4 5 (.array .int) := ⟨RX4, TX4, 8, tyX4, rfl, by decide, rfl, rfl, in_X4, (BW_in (List.mem_of_getElem? (i := 322) (by decide +kernel)) rfl), tyX4_ok, nmX4, rfl, by decide +kernel⟩
theorem cp_X4_20 : FldF RX4 20 4 6 (.array .int) := ⟨RX4, TX4, 8, tyX4, rfl, by decide, rfl, rfl, in_X4, (BW_in (List.mem_of_getElem? (i := 323) (by decide +kernel)) rfl), tyX4_ok, nmX4, rfl, by decide +kernel⟩
theorem cp_X4_23 : FldF RX4 23 4 7 (.array .int) := ⟨RX4, TX4, 8, tyX4, rfl, by decide, rfl, rfl, in_X4, (BW_in (List.mem_of_getElem? (i := 324) (by decide +kernel)) rfl), tyX4_ok, nmX4, rfl, by decide +kernel⟩
theorem cp_X4_26 : FldF RX4 26 4 0 (.object "ClassMaker$Facts") := ⟨RX4, TX4, 8, tyX4, rfl, by decide, rfl, rfl, in_X4, (BW_in (List.mem_of_getElem? (i := 316) (by decide +kernel)) rfl), tyX4_ok, nmX4, rfl, by decide +kernel⟩
theorem cp_X4_30 : FldF RX4 30 4 1 (.object "ClassMaker$Marks") := ⟨RX4, TX4, 8, tyX4, rfl, by decide, rfl, rfl, in_X4, (BW_in (List.mem_of_getElem? (i := 317) (by decide +kernel)) rfl), tyX4_ok, nmX4, rfl, by decide +kernel⟩
def rm_X4_init : Room := { frames := 1, cells := 4, slots := 144, locals := 60 }
def wX4 (aC : Nat → ClassId) (h0 a1 a2 : Nat) (u : Nat → Nat) : va_W := [(h0, .inr (4, [.ref a1, .ref a2, .null, .int (i2 0), .ref (u 1), .ref (u 2), .ref (u 3), .ref (u 4)])), arC (u 1) (aC 0) 98 0, arC (u 2) (aC 0) 14 0, arC (u 3) (aC 0) 16 0, arC (u 4) (aC 0) 16 0]
set_option maxRecDepth 100000 in
set_option maxHeartbeats 4000000 in
theorem k_X4_init {l : Launch} {D : va_G} {aC : Nat → ClassId} (h0 a1 a2 : Nat) : MetN l D aC (Nat → Nat) yX4_init cX4_init 3 rm_X4_init rm_X4_init.cells rm_X4_init.slots h0 (.inr (4, bo_X4)) [.ref a1, .ref a2] (wX4 aC h0 a1 a2) := by
  refine MetN.of (by decide +kernel) rfl (nle rfl) (fun p e s m args below meth c Q A H0 ls X hin hl w hret => ?_)
  have hx := X.1.1
  have hb := X.1.2.1
  replace hl : lv_has ls 3 [(0, .ref h0), (1, .ref a1), (2, .ref a2)] := hl
  refine lv_aload_n hx hb dX4_init_0 rfl (lv_at hl 0 rfl) ?_
  refine nz_obj X obw_X4 hl.1 ⟨nle rfl, nle rfl⟩ dX4_init_1 ?_
  refine lv_aload_n hx hb dX4_init_4 rfl (lv_at hl 0 rfl) ?_
  refine nz_bipush X dX4_init_5 (by decide) ?_
  refine nz_new_int (n := 98) X w acw_int (by decide) (nle rfl) (nle rfl) dX4_init_7 (fun q1 H w => ?_)
  have w : WN D A H0 ([(h0, .inr (4, [.null, .null, .null, .int (i2 0), .null, .null, .null, .null])), arC q1 (aC 0) 98 0]) H _ := w
  refine nz_putf (q0 := 0) X hin w rfl cp_X4_11 (nlt_ rfl) rfl rfl dX4_init_9 (fun H locs w => ?_)
  have w : WN D A H0 ([(h0, .inr (4, [.null, .null, .null, .int (i2 0), .ref q1, .null, .null, .null])), arC q1 (aC 0) 98 0]) H _ := w
  refine lv_aload_n hx hb dX4_init_12 rfl (lv_at hl 0 rfl) ?_
  refine nz_bipush X dX4_init_13 (by decide) ?_
  refine nz_new_int (n := 14) X w acw_int (by decide) (nle rfl) (nle rfl) dX4_init_15 (fun q2 H w => ?_)
  have w : WN D A H0 ([(h0, .inr (4, [.null, .null, .null, .int (i2 0), .ref q1, .null, .null, .null])), arC q1 (aC 0) 98 0, arC q2 (aC 0) 14 0]) H _ := w
  refine nz_putf (q0 := 0) X hin w rfl cp_X4_15 (nlt_ rfl) rfl rfl dX4_init_17 (fun H locs w => ?_)
  have w : WN D A H0 ([(h0, .inr (4, [.null, .null, .null, .int (i2 0), .ref q1, .ref q2, .null, .null])), arC q1 (aC 0) 98 0, arC q2 (aC 0) 14 0]) H _ := w
  refine lv_aload_n hx hb dX4_init_20 rfl (lv_at hl 0 rfl) ?_
  refine nz_bipush X dX4_init_21 (by decide) ?_
  refine nz_new_int (n := 16) X w acw_int (by decide) (nle rfl) (nle rfl) dX4_init_23 (fun q3 H w => ?_)
  have w : WN D A H0 ([(h0, .inr (4, [.null, .null, .null, .int (i2 0), .ref q1, .ref q2, .null, .null])), arC q1 (aC 0) 98 0, arC q2 (aC 0) 14 0, arC q3 (aC 0) 16 0]) H _ := w
  refine nz_putf (q0 := 0) X hin w rfl cp_X4_20 (nlt_ rfl) rfl rfl dX4_init_25 (fun H locs w => ?_)
  have w : WN D A H0 ([(h0, .inr (4, [.null, .null, .null, .int (i2 0), .ref q1, .ref q2, .ref q3, .null])), arC q1 (aC 0) 98 0, arC q2 (aC 0) 14 0, arC q3 (aC 0) 16 0]) H _ := w
  refine lv_aload_n hx hb dX4_init_28 rfl (lv_at hl 0 rfl) ?_
  refine nz_bipush X dX4_init_29 (by decide) ?_
  refine nz_new_int (n := 16) X w acw_int (by decide) (nle rfl) (nle rfl) dX4_init_31 (fun q4 H w => ?_)
  have w : WN D A H0 ([(h0, .inr (4, [.null, .null, .null, .int (i2 0), .ref q1, .ref q2, .ref q3, .null])), arC q1 (aC 0) 98 0, arC q2 (aC 0) 14 0, arC q3 (aC 0) 16 0, arC q4 (aC 0) 16 0]) H _ := w
  refine nz_putf (q0 := 0) X hin w rfl cp_X4_23 (nlt_ rfl) rfl rfl dX4_init_33 (fun H locs w => ?_)
  have w : WN D A H0 ([(h0, .inr (4, [.null, .null, .null, .int (i2 0), .ref q1, .ref q2, .ref q3, .ref q4])), arC q1 (aC 0) 98 0, arC q2 (aC 0) 14 0, arC q3 (aC 0) 16 0, arC q4 (aC 0) 16 0]) H _ := w
  refine lv_aload_n hx hb dX4_init_36 rfl (lv_at hl 0 rfl) ?_
  refine lv_aload_n hx hb dX4_init_37 rfl (lv_at hl 1 rfl) ?_
  refine nz_putf (q0 := 0) X hin w rfl cp_X4_26 (nlt_ rfl) rfl rfl dX4_init_38 (fun H locs w => ?_)
  have w : WN D A H0 ([(h0, .inr (4, [.ref a1, .null, .null, .int (i2 0), .ref q1, .ref q2, .ref q3, .ref q4])), arC q1 (aC 0) 98 0, arC q2 (aC 0) 14 0, arC q3 (aC 0) 16 0, arC q4 (aC 0) 16 0]) H _ := w
  refine lv_aload_n hx hb dX4_init_41 rfl (lv_at hl 0 rfl) ?_
  refine lv_aload_n hx hb dX4_init_42 rfl (lv_at hl 2 rfl) ?_
  refine nz_putf (q0 := 0) X hin w rfl cp_X4_30 (nlt_ rfl) rfl rfl dX4_init_43 (fun H locs w => ?_)
  have w : WN D A H0 ([(h0, .inr (4, [.ref a1, .ref a2, .null, .int (i2 0), .ref q1, .ref q2, .ref q3, .ref q4])), arC q1 (aC 0) 98 0, arC q2 (aC 0) 14 0, arC q3 (aC 0) 16 0, arC q4 (aC 0) 16 0]) H _ := w
  exact hret (fun k => [h0, q1, q2, q3, q4].getD k 0) H _ 46 ls w dX4_init_46
def bo_X8 : List Value := [.null, .null, .int (i2 0), .null, .null, .null, .null, .null, .null, .int (i2 0), .null, .null, .null, .null, .null, .null, .int (i2 0), .int (i2 0), .int (i2 0), .int (i2 0)]
theorem bv_X8 : ∀ j, j < 20 → defaultValue (tyX8 j) = vp_V bo_X8 j := fun j hj => match j, hj with
  | 0, _ => rfl
  | 1, _ => rfl
  | 2, _ => rfl
  | 3, _ => rfl
  | 4, _ => rfl
  | 5, _ => rfl
  | 6, _ => rfl
  | 7, _ => rfl
  | 8, _ => rfl
  | 9, _ => rfl
  | 10, _ => rfl
  | 11, _ => rfl
  | 12, _ => rfl
  | 13, _ => rfl
  | 14, _ => rfl
  | 15, _ => rfl
  | 16, _ => rfl
  | 17, _ => rfl
  | 18, _ => rfl
  | 19, _ => rfl
  | k + 20, h => absurd h (by omega)
theorem obw_X8 : Cond.methodLink RX8 5 objectInit ∈ BW ∧ Cond.instanceMethod objectInit ∈ BW ∧ Cond.code objectInit ⟨#[0xb1]⟩ 1 none ∈ BW := ⟨(BW_in (List.mem_of_getElem? (i := 347) (by decide +kernel)) rfl), (BW_in (List.mem_of_getElem? (i := 128) (by decide +kernel)) rfl), (BW_in (List.mem_of_getElem? (i := 129) (by decide +kernel)) rfl)⟩
theorem cp_X8_11 : FldF RX8 11 8 3 (.array .int) := ⟨RX8, TX8, 20, tyX8, rfl, by decide, rfl, rfl, in_X8, (BW_in (List.mem_of_getElem? (i := 351) (by decide +kernel)) rfl), tyX8_ok, nmX8, rfl, by decide +kernel⟩
theorem cp_X8_15 : FldF RX8 15 8 4 (.array .int) := ⟨RX8, TX8, 20, tyX8, rfl, by decide, rfl, rfl, in_X8, (BW_in (List.mem_of_getElem? (i := 352) (by decide +kernel)) rfl), tyX8_ok, nmX8, rfl, by decide +kernel⟩
theorem cp_X8_18 : FldF RX8 18 8 5 (.array .int) := ⟨RX8, TX8, 20, tyX8, rfl, by decide, rfl, rfl, in_X8, (BW_in (List.mem_of_getElem? (i := 353) (by decide +kernel)) rfl), tyX8_ok, nmX8, rfl, by decide +kernel⟩
theorem cp_X8_21 : FldF RX8 21 8 6 (.array .int) := ⟨RX8, TX8, 20, tyX8, rfl, by decide, rfl, rfl, in_X8, (BW_in (List.mem_of_getElem? (i := 354) (by decide +kernel)) rfl), tyX8_ok, nmX8, rfl, by decide +kernel⟩
theorem cp_X8_24 : FldF RX8 24 8 7 (.array .int) := ⟨RX8, TX8, 20, tyX8, rfl, by decide, rfl, rfl, in_X8, (BW_in (List.mem_of_getElem? (i := 355) (by decide +kernel)) rfl), tyX8_ok, nmX8, rfl, by decide +kernel⟩
theorem cp_X8_27 : FldF RX8 27 8 8 (.array .int) := ⟨RX8, TX8, 20, tyX8, rfl, by decide, rfl, rfl, in_X8, (BW_in (List.mem_of_getElem? (i := 356) (by decide +kernel)) rfl), tyX8_ok, nmX8, rfl, by decide +kernel⟩
theorem cp_X8_32 : FldF RX8 32 8 10 (.array .int) := ⟨RX8, TX8, 20, tyX8, rfl, by decide, rfl, rfl, in_X8, (BW_in (List.mem_of_getElem? (i := 358) (by decide +kernel)) rfl), tyX8_ok, nmX8, rfl, by decide +kernel⟩
theorem cp_X8_35 : FldF RX8 35 8 11 (.array .int) := ⟨RX8, TX8, 20, tyX8, rfl, by decide, rfl, rfl, in_X8, (BW_in (List.mem_of_getElem? (i := 359) (by decide +kernel)) rfl), tyX8_ok, nmX8, rfl, by decide +kernel⟩
theorem cp_X8_38 : FldF RX8 38 8 12 (.array .int) := ⟨RX8, TX8, 20, tyX8, rfl, by decide, rfl, rfl, in_X8, (BW_in (List.mem_of_getElem? (i := 360) (by decide +kernel)) rfl), tyX8_ok, nmX8, rfl, by decide +kernel⟩
theorem cp_X8_41 : FldF RX8 41 8 13 (.array .int) := ⟨RX8, TX8, 20, tyX8, rfl, by decide, rfl, rfl, in_X8, (BW_in (List.mem_of_getElem? (i := 361) (by decide +kernel)) rfl), tyX8_ok, nmX8, rfl, by decide +kernel⟩
theorem cp_X8_44 : FldF RX8 44 8 14 (.array .int) := ⟨RX8, TX8, 20, tyX8, rfl, by decide, rfl, rfl, in_X8, (BW_in (List.mem_of_getElem? (i := 362) (by decide +kernel)) rfl), tyX8_ok, nmX8, rfl, by decide +kernel⟩
theorem cp_X8_47 : FldF RX8 47 8 15 (.array .int) := ⟨RX8, TX8, 20, tyX8, rfl, by decide, rfl, rfl, in_X8, (BW_in (List.mem_of_getElem? (i := 363) (by decide +kernel)) rfl), tyX8_ok, nmX8, rfl, by decide +kernel⟩
theorem cp_X8_50 : FldF RX8 50 8 0 (.object "ClassMaker$Facts") := ⟨RX8, TX8, 20, tyX8, rfl, by decide, rfl, rfl, in_X8, (BW_in (List.mem_of_getElem? (i := 348) (by decide +kernel)) rfl), tyX8_ok, nmX8, rfl, by decide +kernel⟩
theorem cp_X8_54 : FldF RX8 54 8 1 (.object "ClassMaker$Judge") := ⟨RX8, TX8, 20, tyX8, rfl, by decide, rfl, rfl, in_X8, (BW_in (List.mem_of_getElem? (i := 349) (by decide +kernel)) rfl), tyX8_ok, nmX8, rfl, by decide +kernel⟩
def rm_X8_init : Room := { frames := 1, cells := 12, slots := 1792, locals := 60 }
def wX8 (aC : Nat → ClassId) (h0 a1 a2 : Nat) (u : Nat → Nat) : va_W := [(h0, .inr (8, [.ref a1, .ref a2, .int (i2 0), .ref (u 1), .ref (u 2), .ref (u 3), .ref (u 4), .ref (u 5), .ref (u 6), .int (i2 0), .ref (u 7), .ref (u 8), .ref (u 9), .ref (u 10), .ref (u 11), .ref (u 12), .int (i2 0), .int (i2 0), .int (i2 0), .int (i2 0)])), arC (u 1) (aC 0) 9 0, arC (u 2) (aC 0) 9 0, arC (u 3) (aC 0) 9 0, arC (u 4) (aC 0) 512 0, arC (u 5) (aC 0) 512 0, arC (u 6) (aC 0) 512 0, arC (u 7) (aC 0) 16 0, arC (u 8) (aC 0) 144 0, arC (u 9) (aC 0) 48 0, arC (u 10) (aC 0) 3 0, arC (u 11) (aC 0) 9 0, arC (u 12) (aC 0) 9 0]
set_option maxRecDepth 100000 in
set_option maxHeartbeats 4000000 in
theorem k_X8_init {l : Launch} {D : va_G} {aC : Nat → ClassId} (h0 a1 a2 : Nat) : MetN l D aC (Nat → Nat) yX8_init cX8_init 3 rm_X8_init rm_X8_init.cells rm_X8_init.slots h0 (.inr (8, bo_X8)) [.ref a1, .ref a2] (wX8 aC h0 a1 a2) := by
  refine MetN.of (by decide +kernel) rfl (nle rfl) (fun p e s m args below meth c Q A H0 ls X hin hl w hret => ?_)
  have hx := X.1.1
  have hb := X.1.2.1
  replace hl : lv_has ls 3 [(0, .ref h0), (1, .ref a1), (2, .ref a2)] := hl
  refine lv_aload_n hx hb dX8_init_0 rfl (lv_at hl 0 rfl) ?_
  refine nz_obj X obw_X8 hl.1 ⟨nle rfl, nle rfl⟩ dX8_init_1 ?_
  refine lv_aload_n hx hb dX8_init_4 rfl (lv_at hl 0 rfl) ?_
  refine nz_bipush X dX8_init_5 (by decide) ?_
  refine nz_new_int (n := 9) X w acw_int (by decide) (nle rfl) (nle rfl) dX8_init_7 (fun q1 H w => ?_)
  have w : WN D A H0 ([(h0, .inr (8, [.null, .null, .int (i2 0), .null, .null, .null, .null, .null, .null, .int (i2 0), .null, .null, .null, .null, .null, .null, .int (i2 0), .int (i2 0), .int (i2 0), .int (i2 0)])), arC q1 (aC 0) 9 0]) H _ := w
  refine nz_putf (q0 := 0) X hin w rfl cp_X8_11 (nlt_ rfl) rfl rfl dX8_init_9 (fun H locs w => ?_)
  have w : WN D A H0 ([(h0, .inr (8, [.null, .null, .int (i2 0), .ref q1, .null, .null, .null, .null, .null, .int (i2 0), .null, .null, .null, .null, .null, .null, .int (i2 0), .int (i2 0), .int (i2 0), .int (i2 0)])), arC q1 (aC 0) 9 0]) H _ := w
  refine lv_aload_n hx hb dX8_init_12 rfl (lv_at hl 0 rfl) ?_
  refine nz_bipush X dX8_init_13 (by decide) ?_
  refine nz_new_int (n := 9) X w acw_int (by decide) (nle rfl) (nle rfl) dX8_init_15 (fun q2 H w => ?_)
  have w : WN D A H0 ([(h0, .inr (8, [.null, .null, .int (i2 0), .ref q1, .null, .null, .null, .null, .null, .int (i2 0), .null, .null, .null, .null, .null, .null, .int (i2 0), .int (i2 0), .int (i2 0), .int (i2 0)])), arC q1 (aC 0) 9 0, arC q2 (aC 0) 9 0]) H _ := w
  refine nz_putf (q0 := 0) X hin w rfl cp_X8_15 (nlt_ rfl) rfl rfl dX8_init_17 (fun H locs w => ?_)
  have w : WN D A H0 ([(h0, .inr (8, [.null, .null, .int (i2 0), .ref q1, .ref q2, .null, .null, .null, .null, .int (i2 0), .null, .null, .null, .null, .null, .null, .int (i2 0), .int (i2 0), .int (i2 0), .int (i2 0)])), arC q1 (aC 0) 9 0, arC q2 (aC 0) 9 0]) H _ := w
  refine lv_aload_n hx hb dX8_init_20 rfl (lv_at hl 0 rfl) ?_
  refine nz_bipush X dX8_init_21 (by decide) ?_
  refine nz_new_int (n := 9) X w acw_int (by decide) (nle rfl) (nle rfl) dX8_init_23 (fun q3 H w => ?_)
  have w : WN D A H0 ([(h0, .inr (8, [.null, .null, .int (i2 0), .ref q1, .ref q2, .null, .null, .null, .null, .int (i2 0), .null, .null, .null, .null, .null, .null, .int (i2 0), .int (i2 0), .int (i2 0), .int (i2 0)])), arC q1 (aC 0) 9 0, arC q2 (aC 0) 9 0, arC q3 (aC 0) 9 0]) H _ := w
  refine nz_putf (q0 := 0) X hin w rfl cp_X8_18 (nlt_ rfl) rfl rfl dX8_init_25 (fun H locs w => ?_)
  have w : WN D A H0 ([(h0, .inr (8, [.null, .null, .int (i2 0), .ref q1, .ref q2, .ref q3, .null, .null, .null, .int (i2 0), .null, .null, .null, .null, .null, .null, .int (i2 0), .int (i2 0), .int (i2 0), .int (i2 0)])), arC q1 (aC 0) 9 0, arC q2 (aC 0) 9 0, arC q3 (aC 0) 9 0]) H _ := w
  refine lv_aload_n hx hb dX8_init_28 rfl (lv_at hl 0 rfl) ?_
  refine nz_sipush X dX8_init_29 (by decide) ?_
  refine nz_new_int (n := 512) X w acw_int (by decide) (nle rfl) (nle rfl) dX8_init_32 (fun q4 H w => ?_)
  have w : WN D A H0 ([(h0, .inr (8, [.null, .null, .int (i2 0), .ref q1, .ref q2, .ref q3, .null, .null, .null, .int (i2 0), .null, .null, .null, .null, .null, .null, .int (i2 0), .int (i2 0), .int (i2 0), .int (i2 0)])), arC q1 (aC 0) 9 0, arC q2 (aC 0) 9 0, arC q3 (aC 0) 9 0, arC q4 (aC 0) 512 0]) H _ := w
  refine nz_putf (q0 := 0) X hin w rfl cp_X8_21 (nlt_ rfl) rfl rfl dX8_init_34 (fun H locs w => ?_)
  have w : WN D A H0 ([(h0, .inr (8, [.null, .null, .int (i2 0), .ref q1, .ref q2, .ref q3, .ref q4, .null, .null, .int (i2 0), .null, .null, .null, .null, .null, .null, .int (i2 0), .int (i2 0), .int (i2 0), .int (i2 0)])), arC q1 (aC 0) 9 0, arC q2 (aC 0) 9 0, arC q3 (aC 0) 9 0, arC q4 (aC 0) 512 0]) H _ := w
  refine lv_aload_n hx hb dX8_init_37 rfl (lv_at hl 0 rfl) ?_
  refine nz_sipush X dX8_init_38 (by decide) ?_
  refine nz_new_int (n := 512) X w acw_int (by decide) (nle rfl) (nle rfl) dX8_init_41 (fun q5 H w => ?_)
  have w : WN D A H0 ([(h0, .inr (8, [.null, .null, .int (i2 0), .ref q1, .ref q2, .ref q3, .ref q4, .null, .null, .int (i2 0), .null, .null, .null, .null, .null, .null, .int (i2 0), .int (i2 0), .int (i2 0), .int (i2 0)])), arC q1 (aC 0) 9 0, arC q2 (aC 0) 9 0, arC q3 (aC 0) 9 0, arC q4 (aC 0) 512 0, arC q5 (aC 0) 512 0]) H _ := w
  refine nz_putf (q0 := 0) X hin w rfl cp_X8_24 (nlt_ rfl) rfl rfl dX8_init_43 (fun H locs w => ?_)
  have w : WN D A H0 ([(h0, .inr (8, [.null, .null, .int (i2 0), .ref q1, .ref q2, .ref q3, .ref q4, .ref q5, .null, .int (i2 0), .null, .null, .null, .null, .null, .null, .int (i2 0), .int (i2 0), .int (i2 0), .int (i2 0)])), arC q1 (aC 0) 9 0, arC q2 (aC 0) 9 0, arC q3 (aC 0) 9 0, arC q4 (aC 0) 512 0, arC q5 (aC 0) 512 0]) H _ := w
  refine lv_aload_n hx hb dX8_init_46 rfl (lv_at hl 0 rfl) ?_
  refine nz_sipush X dX8_init_47 (by decide) ?_
  refine nz_new_int (n := 512) X w acw_int (by decide) (nle rfl) (nle rfl) dX8_init_50 (fun q6 H w => ?_)
  have w : WN D A H0 ([(h0, .inr (8, [.null, .null, .int (i2 0), .ref q1, .ref q2, .ref q3, .ref q4, .ref q5, .null, .int (i2 0), .null, .null, .null, .null, .null, .null, .int (i2 0), .int (i2 0), .int (i2 0), .int (i2 0)])), arC q1 (aC 0) 9 0, arC q2 (aC 0) 9 0, arC q3 (aC 0) 9 0, arC q4 (aC 0) 512 0, arC q5 (aC 0) 512 0, arC q6 (aC 0) 512 0]) H _ := w
  refine nz_putf (q0 := 0) X hin w rfl cp_X8_27 (nlt_ rfl) rfl rfl dX8_init_52 (fun H locs w => ?_)
  have w : WN D A H0 ([(h0, .inr (8, [.null, .null, .int (i2 0), .ref q1, .ref q2, .ref q3, .ref q4, .ref q5, .ref q6, .int (i2 0), .null, .null, .null, .null, .null, .null, .int (i2 0), .int (i2 0), .int (i2 0), .int (i2 0)])), arC q1 (aC 0) 9 0, arC q2 (aC 0) 9 0, arC q3 (aC 0) 9 0, arC q4 (aC 0) 512 0, arC q5 (aC 0) 512 0, arC q6 (aC 0) 512 0]) H _ := w
  refine lv_aload_n hx hb dX8_init_55 rfl (lv_at hl 0 rfl) ?_
  refine nz_bipush X dX8_init_56 (by decide) ?_
  refine nz_new_int (n := 16) X w acw_int (by decide) (nle rfl) (nle rfl) dX8_init_58 (fun q7 H w => ?_)
  have w : WN D A H0 ([(h0, .inr (8, [.null, .null, .int (i2 0), .ref q1, .ref q2, .ref q3, .ref q4, .ref q5, .ref q6, .int (i2 0), .null, .null, .null, .null, .null, .null, .int (i2 0), .int (i2 0), .int (i2 0), .int (i2 0)])), arC q1 (aC 0) 9 0, arC q2 (aC 0) 9 0, arC q3 (aC 0) 9 0, arC q4 (aC 0) 512 0, arC q5 (aC 0) 512 0, arC q6 (aC 0) 512 0, arC q7 (aC 0) 16 0]) H _ := w
  refine nz_putf (q0 := 0) X hin w rfl cp_X8_32 (nlt_ rfl) rfl rfl dX8_init_60 (fun H locs w => ?_)
  have w : WN D A H0 ([(h0, .inr (8, [.null, .null, .int (i2 0), .ref q1, .ref q2, .ref q3, .ref q4, .ref q5, .ref q6, .int (i2 0), .ref q7, .null, .null, .null, .null, .null, .int (i2 0), .int (i2 0), .int (i2 0), .int (i2 0)])), arC q1 (aC 0) 9 0, arC q2 (aC 0) 9 0, arC q3 (aC 0) 9 0, arC q4 (aC 0) 512 0, arC q5 (aC 0) 512 0, arC q6 (aC 0) 512 0, arC q7 (aC 0) 16 0]) H _ := w
  refine lv_aload_n hx hb dX8_init_63 rfl (lv_at hl 0 rfl) ?_
  refine nz_sipush X dX8_init_64 (by decide) ?_
  refine nz_new_int (n := 144) X w acw_int (by decide) (nle rfl) (nle rfl) dX8_init_67 (fun q8 H w => ?_)
  have w : WN D A H0 ([(h0, .inr (8, [.null, .null, .int (i2 0), .ref q1, .ref q2, .ref q3, .ref q4, .ref q5, .ref q6, .int (i2 0), .ref q7, .null, .null, .null, .null, .null, .int (i2 0), .int (i2 0), .int (i2 0), .int (i2 0)])), arC q1 (aC 0) 9 0, arC q2 (aC 0) 9 0, arC q3 (aC 0) 9 0, arC q4 (aC 0) 512 0, arC q5 (aC 0) 512 0, arC q6 (aC 0) 512 0, arC q7 (aC 0) 16 0, arC q8 (aC 0) 144 0]) H _ := w
  refine nz_putf (q0 := 0) X hin w rfl cp_X8_35 (nlt_ rfl) rfl rfl dX8_init_69 (fun H locs w => ?_)
  have w : WN D A H0 ([(h0, .inr (8, [.null, .null, .int (i2 0), .ref q1, .ref q2, .ref q3, .ref q4, .ref q5, .ref q6, .int (i2 0), .ref q7, .ref q8, .null, .null, .null, .null, .int (i2 0), .int (i2 0), .int (i2 0), .int (i2 0)])), arC q1 (aC 0) 9 0, arC q2 (aC 0) 9 0, arC q3 (aC 0) 9 0, arC q4 (aC 0) 512 0, arC q5 (aC 0) 512 0, arC q6 (aC 0) 512 0, arC q7 (aC 0) 16 0, arC q8 (aC 0) 144 0]) H _ := w
  refine lv_aload_n hx hb dX8_init_72 rfl (lv_at hl 0 rfl) ?_
  refine nz_bipush X dX8_init_73 (by decide) ?_
  refine nz_new_int (n := 48) X w acw_int (by decide) (nle rfl) (nle rfl) dX8_init_75 (fun q9 H w => ?_)
  have w : WN D A H0 ([(h0, .inr (8, [.null, .null, .int (i2 0), .ref q1, .ref q2, .ref q3, .ref q4, .ref q5, .ref q6, .int (i2 0), .ref q7, .ref q8, .null, .null, .null, .null, .int (i2 0), .int (i2 0), .int (i2 0), .int (i2 0)])), arC q1 (aC 0) 9 0, arC q2 (aC 0) 9 0, arC q3 (aC 0) 9 0, arC q4 (aC 0) 512 0, arC q5 (aC 0) 512 0, arC q6 (aC 0) 512 0, arC q7 (aC 0) 16 0, arC q8 (aC 0) 144 0, arC q9 (aC 0) 48 0]) H _ := w
  refine nz_putf (q0 := 0) X hin w rfl cp_X8_38 (nlt_ rfl) rfl rfl dX8_init_77 (fun H locs w => ?_)
  have w : WN D A H0 ([(h0, .inr (8, [.null, .null, .int (i2 0), .ref q1, .ref q2, .ref q3, .ref q4, .ref q5, .ref q6, .int (i2 0), .ref q7, .ref q8, .ref q9, .null, .null, .null, .int (i2 0), .int (i2 0), .int (i2 0), .int (i2 0)])), arC q1 (aC 0) 9 0, arC q2 (aC 0) 9 0, arC q3 (aC 0) 9 0, arC q4 (aC 0) 512 0, arC q5 (aC 0) 512 0, arC q6 (aC 0) 512 0, arC q7 (aC 0) 16 0, arC q8 (aC 0) 144 0, arC q9 (aC 0) 48 0]) H _ := w
  refine lv_aload_n hx hb dX8_init_80 rfl (lv_at hl 0 rfl) ?_
  refine nz_iconst X dX8_init_81 ?_
  refine nz_new_int (n := 3) X w acw_int (by decide) (nle rfl) (nle rfl) dX8_init_82 (fun q10 H w => ?_)
  have w : WN D A H0 ([(h0, .inr (8, [.null, .null, .int (i2 0), .ref q1, .ref q2, .ref q3, .ref q4, .ref q5, .ref q6, .int (i2 0), .ref q7, .ref q8, .ref q9, .null, .null, .null, .int (i2 0), .int (i2 0), .int (i2 0), .int (i2 0)])), arC q1 (aC 0) 9 0, arC q2 (aC 0) 9 0, arC q3 (aC 0) 9 0, arC q4 (aC 0) 512 0, arC q5 (aC 0) 512 0, arC q6 (aC 0) 512 0, arC q7 (aC 0) 16 0, arC q8 (aC 0) 144 0, arC q9 (aC 0) 48 0, arC q10 (aC 0) 3 0]) H _ := w
  refine nz_putf (q0 := 0) X hin w rfl cp_X8_41 (nlt_ rfl) rfl rfl dX8_init_84 (fun H locs w => ?_)
  have w : WN D A H0 ([(h0, .inr (8, [.null, .null, .int (i2 0), .ref q1, .ref q2, .ref q3, .ref q4, .ref q5, .ref q6, .int (i2 0), .ref q7, .ref q8, .ref q9, .ref q10, .null, .null, .int (i2 0), .int (i2 0), .int (i2 0), .int (i2 0)])), arC q1 (aC 0) 9 0, arC q2 (aC 0) 9 0, arC q3 (aC 0) 9 0, arC q4 (aC 0) 512 0, arC q5 (aC 0) 512 0, arC q6 (aC 0) 512 0, arC q7 (aC 0) 16 0, arC q8 (aC 0) 144 0, arC q9 (aC 0) 48 0, arC q10 (aC 0) 3 0]) H _ := w
  refine lv_aload_n hx hb dX8_init_87 rfl (lv_at hl 0 rfl) ?_
  refine nz_bipush X dX8_init_88 (by decide) ?_
  refine nz_new_int (n := 9) X w acw_int (by decide) (nle rfl) (nle rfl) dX8_init_90 (fun q11 H w => ?_)
  have w : WN D A H0 ([(h0, .inr (8, [.null, .null, .int (i2 0), .ref q1, .ref q2, .ref q3, .ref q4, .ref q5, .ref q6, .int (i2 0), .ref q7, .ref q8, .ref q9, .ref q10, .null, .null, .int (i2 0), .int (i2 0), .int (i2 0), .int (i2 0)])), arC q1 (aC 0) 9 0, arC q2 (aC 0) 9 0, arC q3 (aC 0) 9 0, arC q4 (aC 0) 512 0, arC q5 (aC 0) 512 0, arC q6 (aC 0) 512 0, arC q7 (aC 0) 16 0, arC q8 (aC 0) 144 0, arC q9 (aC 0) 48 0, arC q10 (aC 0) 3 0, arC q11 (aC 0) 9 0]) H _ := w
  refine nz_putf (q0 := 0) X hin w rfl cp_X8_44 (nlt_ rfl) rfl rfl dX8_init_92 (fun H locs w => ?_)
  have w : WN D A H0 ([(h0, .inr (8, [.null, .null, .int (i2 0), .ref q1, .ref q2, .ref q3, .ref q4, .ref q5, .ref q6, .int (i2 0), .ref q7, .ref q8, .ref q9, .ref q10, .ref q11, .null, .int (i2 0), .int (i2 0), .int (i2 0), .int (i2 0)])), arC q1 (aC 0) 9 0, arC q2 (aC 0) 9 0, arC q3 (aC 0) 9 0, arC q4 (aC 0) 512 0, arC q5 (aC 0) 512 0, arC q6 (aC 0) 512 0, arC q7 (aC 0) 16 0, arC q8 (aC 0) 144 0, arC q9 (aC 0) 48 0, arC q10 (aC 0) 3 0, arC q11 (aC 0) 9 0]) H _ := w
  refine lv_aload_n hx hb dX8_init_95 rfl (lv_at hl 0 rfl) ?_
  refine nz_bipush X dX8_init_96 (by decide) ?_
  refine nz_new_int (n := 9) X w acw_int (by decide) (nle rfl) (nle rfl) dX8_init_98 (fun q12 H w => ?_)
  have w : WN D A H0 ([(h0, .inr (8, [.null, .null, .int (i2 0), .ref q1, .ref q2, .ref q3, .ref q4, .ref q5, .ref q6, .int (i2 0), .ref q7, .ref q8, .ref q9, .ref q10, .ref q11, .null, .int (i2 0), .int (i2 0), .int (i2 0), .int (i2 0)])), arC q1 (aC 0) 9 0, arC q2 (aC 0) 9 0, arC q3 (aC 0) 9 0, arC q4 (aC 0) 512 0, arC q5 (aC 0) 512 0, arC q6 (aC 0) 512 0, arC q7 (aC 0) 16 0, arC q8 (aC 0) 144 0, arC q9 (aC 0) 48 0, arC q10 (aC 0) 3 0, arC q11 (aC 0) 9 0, arC q12 (aC 0) 9 0]) H _ := w
  refine nz_putf (q0 := 0) X hin w rfl cp_X8_47 (nlt_ rfl) rfl rfl dX8_init_100 (fun H locs w => ?_)
  have w : WN D A H0 ([(h0, .inr (8, [.null, .null, .int (i2 0), .ref q1, .ref q2, .ref q3, .ref q4, .ref q5, .ref q6, .int (i2 0), .ref q7, .ref q8, .ref q9, .ref q10, .ref q11, .ref q12, .int (i2 0), .int (i2 0), .int (i2 0), .int (i2 0)])), arC q1 (aC 0) 9 0, arC q2 (aC 0) 9 0, arC q3 (aC 0) 9 0, arC q4 (aC 0) 512 0, arC q5 (aC 0) 512 0, arC q6 (aC 0) 512 0, arC q7 (aC 0) 16 0, arC q8 (aC 0) 144 0, arC q9 (aC 0) 48 0, arC q10 (aC 0) 3 0, arC q11 (aC 0) 9 0, arC q12 (aC 0) 9 0]) H _ := w
  refine lv_aload_n hx hb dX8_init_103 rfl (lv_at hl 0 rfl) ?_
  refine lv_aload_n hx hb dX8_init_104 rfl (lv_at hl 1 rfl) ?_
  refine nz_putf (q0 := 0) X hin w rfl cp_X8_50 (nlt_ rfl) rfl rfl dX8_init_105 (fun H locs w => ?_)
  have w : WN D A H0 ([(h0, .inr (8, [.ref a1, .null, .int (i2 0), .ref q1, .ref q2, .ref q3, .ref q4, .ref q5, .ref q6, .int (i2 0), .ref q7, .ref q8, .ref q9, .ref q10, .ref q11, .ref q12, .int (i2 0), .int (i2 0), .int (i2 0), .int (i2 0)])), arC q1 (aC 0) 9 0, arC q2 (aC 0) 9 0, arC q3 (aC 0) 9 0, arC q4 (aC 0) 512 0, arC q5 (aC 0) 512 0, arC q6 (aC 0) 512 0, arC q7 (aC 0) 16 0, arC q8 (aC 0) 144 0, arC q9 (aC 0) 48 0, arC q10 (aC 0) 3 0, arC q11 (aC 0) 9 0, arC q12 (aC 0) 9 0]) H _ := w
  refine lv_aload_n hx hb dX8_init_108 rfl (lv_at hl 0 rfl) ?_
  refine lv_aload_n hx hb dX8_init_109 rfl (lv_at hl 2 rfl) ?_
  refine nz_putf (q0 := 0) X hin w rfl cp_X8_54 (nlt_ rfl) rfl rfl dX8_init_110 (fun H locs w => ?_)
  have w : WN D A H0 ([(h0, .inr (8, [.ref a1, .ref a2, .int (i2 0), .ref q1, .ref q2, .ref q3, .ref q4, .ref q5, .ref q6, .int (i2 0), .ref q7, .ref q8, .ref q9, .ref q10, .ref q11, .ref q12, .int (i2 0), .int (i2 0), .int (i2 0), .int (i2 0)])), arC q1 (aC 0) 9 0, arC q2 (aC 0) 9 0, arC q3 (aC 0) 9 0, arC q4 (aC 0) 512 0, arC q5 (aC 0) 512 0, arC q6 (aC 0) 512 0, arC q7 (aC 0) 16 0, arC q8 (aC 0) 144 0, arC q9 (aC 0) 48 0, arC q10 (aC 0) 3 0, arC q11 (aC 0) 9 0, arC q12 (aC 0) 9 0]) H _ := w
  exact hret (fun k => [h0, q1, q2, q3, q4, q5, q6, q7, q8, q9, q10, q11, q12].getD k 0) H _ 113 ls w dX8_init_113
def bo_X2 : List Value := [.null, .null, .null, .null, .int (i2 0), .int (i2 0), .int (i2 0)]
theorem bv_X2 : ∀ j, j < 7 → defaultValue (tyX2 j) = vp_V bo_X2 j := fun j hj => match j, hj with
  | 0, _ => rfl
  | 1, _ => rfl
  | 2, _ => rfl
  | 3, _ => rfl
  | 4, _ => rfl
  | 5, _ => rfl
  | 6, _ => rfl
  | k + 7, h => absurd h (by omega)
theorem obw_X2 : Cond.methodLink RX2 3 objectInit ∈ BW ∧ Cond.instanceMethod objectInit ∈ BW ∧ Cond.code objectInit ⟨#[0xb1]⟩ 1 none ∈ BW := ⟨(BW_in (List.mem_of_getElem? (i := 417) (by decide +kernel)) rfl), (BW_in (List.mem_of_getElem? (i := 128) (by decide +kernel)) rfl), (BW_in (List.mem_of_getElem? (i := 129) (by decide +kernel)) rfl)⟩
theorem cp_X2_9 : FldF RX2 9 2 2 (.array .int) := ⟨RX2, TX2, 7, tyX2, rfl, by decide, rfl, rfl, in_X2, (BW_in (List.mem_of_getElem? (i := 420) (by decide +kernel)) rfl), tyX2_ok, nmX2, rfl, by decide +kernel⟩
theorem cp_X2_15 : FldF RX2 15 2 3 (.array .int) := ⟨RX2, TX2, 7, tyX2, rfl, by decide, rfl, rfl, in_X2, (BW_in (List.mem_of_getElem? (i := 421) (by decide +kernel)) rfl), tyX2_ok, nmX2, rfl, by decide +kernel⟩
theorem cp_X2_18 : FldF RX2 18 2 0 (.object "ClassMaker$Facts") := ⟨RX2, TX2, 7, tyX2, rfl, by decide, rfl, rfl, in_X2, (BW_in (List.mem_of_getElem? (i := 418) (by decide +kernel)) rfl), tyX2_ok, nmX2, rfl, by decide +kernel⟩
theorem cp_X2_22 : FldF RX2 22 2 1 (.object "ClassMaker$Judge") := ⟨RX2, TX2, 7, tyX2, rfl, by decide, rfl, rfl, in_X2, (BW_in (List.mem_of_getElem? (i := 419) (by decide +kernel)) rfl), tyX2_ok, nmX2, rfl, by decide +kernel⟩
def rm_X2_init : Room := { frames := 1, cells := 2, slots := 17, locals := 60 }
def wX2 (aC : Nat → ClassId) (h0 a1 a2 : Nat) (u : Nat → Nat) : va_W := [(h0, .inr (2, [.ref a1, .ref a2, .ref (u 1), .ref (u 2), .int (i2 0), .int (i2 0), .int (i2 0)])), arC (u 1) (aC 0) 3 0, arC (u 2) (aC 0) 14 0]
set_option maxRecDepth 100000 in
set_option maxHeartbeats 4000000 in
theorem k_X2_init {l : Launch} {D : va_G} {aC : Nat → ClassId} (h0 a1 a2 : Nat) : MetN l D aC (Nat → Nat) yX2_init cX2_init 3 rm_X2_init rm_X2_init.cells rm_X2_init.slots h0 (.inr (2, bo_X2)) [.ref a1, .ref a2] (wX2 aC h0 a1 a2) := by
  refine MetN.of (by decide +kernel) rfl (nle rfl) (fun p e s m args below meth c Q A H0 ls X hin hl w hret => ?_)
  have hx := X.1.1
  have hb := X.1.2.1
  replace hl : lv_has ls 3 [(0, .ref h0), (1, .ref a1), (2, .ref a2)] := hl
  refine lv_aload_n hx hb dX2_init_0 rfl (lv_at hl 0 rfl) ?_
  refine nz_obj X obw_X2 hl.1 ⟨nle rfl, nle rfl⟩ dX2_init_1 ?_
  refine lv_aload_n hx hb dX2_init_4 rfl (lv_at hl 0 rfl) ?_
  refine nz_iconst X dX2_init_5 ?_
  refine nz_new_int (n := 3) X w acw_int (by decide) (nle rfl) (nle rfl) dX2_init_6 (fun q1 H w => ?_)
  have w : WN D A H0 ([(h0, .inr (2, [.null, .null, .null, .null, .int (i2 0), .int (i2 0), .int (i2 0)])), arC q1 (aC 0) 3 0]) H _ := w
  refine nz_putf (q0 := 0) X hin w rfl cp_X2_9 (nlt_ rfl) rfl rfl dX2_init_8 (fun H locs w => ?_)
  have w : WN D A H0 ([(h0, .inr (2, [.null, .null, .ref q1, .null, .int (i2 0), .int (i2 0), .int (i2 0)])), arC q1 (aC 0) 3 0]) H _ := w
  refine lv_aload_n hx hb dX2_init_11 rfl (lv_at hl 0 rfl) ?_
  refine nz_bipush X dX2_init_12 (by decide) ?_
  refine nz_new_int (n := 14) X w acw_int (by decide) (nle rfl) (nle rfl) dX2_init_14 (fun q2 H w => ?_)
  have w : WN D A H0 ([(h0, .inr (2, [.null, .null, .ref q1, .null, .int (i2 0), .int (i2 0), .int (i2 0)])), arC q1 (aC 0) 3 0, arC q2 (aC 0) 14 0]) H _ := w
  refine nz_putf (q0 := 0) X hin w rfl cp_X2_15 (nlt_ rfl) rfl rfl dX2_init_16 (fun H locs w => ?_)
  have w : WN D A H0 ([(h0, .inr (2, [.null, .null, .ref q1, .ref q2, .int (i2 0), .int (i2 0), .int (i2 0)])), arC q1 (aC 0) 3 0, arC q2 (aC 0) 14 0]) H _ := w
  refine lv_aload_n hx hb dX2_init_19 rfl (lv_at hl 0 rfl) ?_
  refine lv_aload_n hx hb dX2_init_20 rfl (lv_at hl 1 rfl) ?_
  refine nz_putf (q0 := 0) X hin w rfl cp_X2_18 (nlt_ rfl) rfl rfl dX2_init_21 (fun H locs w => ?_)
  have w : WN D A H0 ([(h0, .inr (2, [.ref a1, .null, .ref q1, .ref q2, .int (i2 0), .int (i2 0), .int (i2 0)])), arC q1 (aC 0) 3 0, arC q2 (aC 0) 14 0]) H _ := w
  refine lv_aload_n hx hb dX2_init_24 rfl (lv_at hl 0 rfl) ?_
  refine lv_aload_n hx hb dX2_init_25 rfl (lv_at hl 2 rfl) ?_
  refine nz_putf (q0 := 0) X hin w rfl cp_X2_22 (nlt_ rfl) rfl rfl dX2_init_26 (fun H locs w => ?_)
  have w : WN D A H0 ([(h0, .inr (2, [.ref a1, .ref a2, .ref q1, .ref q2, .int (i2 0), .int (i2 0), .int (i2 0)])), arC q1 (aC 0) 3 0, arC q2 (aC 0) 14 0]) H _ := w
  exact hret (fun k => [h0, q1, q2].getD k 0) H _ 29 ls w dX2_init_29
def bo_X3 : List Value := [.int (i2 0), .null, .null, .null, .null, .null, .int (i2 0)]
theorem bv_X3 : ∀ j, j < 7 → defaultValue (tyX3 j) = vp_V bo_X3 j := fun j hj => match j, hj with
  | 0, _ => rfl
  | 1, _ => rfl
  | 2, _ => rfl
  | 3, _ => rfl
  | 4, _ => rfl
  | 5, _ => rfl
  | 6, _ => rfl
  | k + 7, h => absurd h (by omega)
theorem obw_X3 : Cond.methodLink RX3 3 objectInit ∈ BW ∧ Cond.instanceMethod objectInit ∈ BW ∧ Cond.code objectInit ⟨#[0xb1]⟩ 1 none ∈ BW := ⟨(BW_in (List.mem_of_getElem? (i := 449) (by decide +kernel)) rfl), (BW_in (List.mem_of_getElem? (i := 128) (by decide +kernel)) rfl), (BW_in (List.mem_of_getElem? (i := 129) (by decide +kernel)) rfl)⟩
theorem cp_X3_11 : FldF RX3 11 3 1 (.array .int) := ⟨RX3, TX3, 7, tyX3, rfl, by decide, rfl, rfl, in_X3, (BW_in (List.mem_of_getElem? (i := 452) (by decide +kernel)) rfl), tyX3_ok, nmX3, rfl, by decide +kernel⟩
theorem cp_X3_15 : FldF RX3 15 3 2 (.array .int) := ⟨RX3, TX3, 7, tyX3, rfl, by decide, rfl, rfl, in_X3, (BW_in (List.mem_of_getElem? (i := 453) (by decide +kernel)) rfl), tyX3_ok, nmX3, rfl, by decide +kernel⟩
theorem cp_X3_18 : FldF RX3 18 3 3 (.array .int) := ⟨RX3, TX3, 7, tyX3, rfl, by decide, rfl, rfl, in_X3, (BW_in (List.mem_of_getElem? (i := 454) (by decide +kernel)) rfl), tyX3_ok, nmX3, rfl, by decide +kernel⟩
theorem cp_X3_21 : FldF RX3 21 3 4 (.array .int) := ⟨RX3, TX3, 7, tyX3, rfl, by decide, rfl, rfl, in_X3, (BW_in (List.mem_of_getElem? (i := 455) (by decide +kernel)) rfl), tyX3_ok, nmX3, rfl, by decide +kernel⟩
theorem cp_X3_24 : FldF RX3 24 3 5 (.array .int) := ⟨RX3, TX3, 7, tyX3, rfl, by decide, rfl, rfl, in_X3, (BW_in (List.mem_of_getElem? (i := 456) (by decide +kernel)) rfl), tyX3_ok, nmX3, rfl, by decide +kernel⟩
def rm_X3_init : Room := { frames := 1, cells := 5, slots := 24, locals := 60 }
def wX3 (aC : Nat → ClassId) (h0 : Nat) (u : Nat → Nat) : va_W := [(h0, .inr (3, [.int (i2 0), .ref (u 1), .ref (u 2), .ref (u 3), .ref (u 4), .ref (u 5), .int (i2 0)])), arC (u 1) (aC 0) 6 0, arC (u 2) (aC 0) 3 0, arC (u 3) (aC 0) 3 0, arC (u 4) (aC 0) 6 0, arC (u 5) (aC 0) 6 0]
set_option maxRecDepth 100000 in
set_option maxHeartbeats 4000000 in
theorem k_X3_init {l : Launch} {D : va_G} {aC : Nat → ClassId} (h0 : Nat) : MetN l D aC (Nat → Nat) yX3_init cX3_init 1 rm_X3_init rm_X3_init.cells rm_X3_init.slots h0 (.inr (3, bo_X3)) [] (wX3 aC h0) := by
  refine MetN.of (by decide +kernel) rfl (nle rfl) (fun p e s m args below meth c Q A H0 ls X hin hl w hret => ?_)
  have hx := X.1.1
  have hb := X.1.2.1
  replace hl : lv_has ls 1 [(0, .ref h0)] := hl
  refine lv_aload_n hx hb dX3_init_0 rfl (lv_at hl 0 rfl) ?_
  refine nz_obj X obw_X3 hl.1 ⟨nle rfl, nle rfl⟩ dX3_init_1 ?_
  refine lv_aload_n hx hb dX3_init_4 rfl (lv_at hl 0 rfl) ?_
  refine nz_bipush X dX3_init_5 (by decide) ?_
  refine nz_new_int (n := 6) X w acw_int (by decide) (nle rfl) (nle rfl) dX3_init_7 (fun q1 H w => ?_)
  have w : WN D A H0 ([(h0, .inr (3, [.int (i2 0), .null, .null, .null, .null, .null, .int (i2 0)])), arC q1 (aC 0) 6 0]) H _ := w
  refine nz_putf (q0 := 0) X hin w rfl cp_X3_11 (nlt_ rfl) rfl rfl dX3_init_9 (fun H locs w => ?_)
  have w : WN D A H0 ([(h0, .inr (3, [.int (i2 0), .ref q1, .null, .null, .null, .null, .int (i2 0)])), arC q1 (aC 0) 6 0]) H _ := w
  refine lv_aload_n hx hb dX3_init_12 rfl (lv_at hl 0 rfl) ?_
  refine nz_iconst X dX3_init_13 ?_
  refine nz_new_int (n := 3) X w acw_int (by decide) (nle rfl) (nle rfl) dX3_init_14 (fun q2 H w => ?_)
  have w : WN D A H0 ([(h0, .inr (3, [.int (i2 0), .ref q1, .null, .null, .null, .null, .int (i2 0)])), arC q1 (aC 0) 6 0, arC q2 (aC 0) 3 0]) H _ := w
  refine nz_putf (q0 := 0) X hin w rfl cp_X3_15 (nlt_ rfl) rfl rfl dX3_init_16 (fun H locs w => ?_)
  have w : WN D A H0 ([(h0, .inr (3, [.int (i2 0), .ref q1, .ref q2, .null, .null, .null, .int (i2 0)])), arC q1 (aC 0) 6 0, arC q2 (aC 0) 3 0]) H _ := w
  refine lv_aload_n hx hb dX3_init_19 rfl (lv_at hl 0 rfl) ?_
  refine nz_iconst X dX3_init_20 ?_
  refine nz_new_int (n := 3) X w acw_int (by decide) (nle rfl) (nle rfl) dX3_init_21 (fun q3 H w => ?_)
  have w : WN D A H0 ([(h0, .inr (3, [.int (i2 0), .ref q1, .ref q2, .null, .null, .null, .int (i2 0)])), arC q1 (aC 0) 6 0, arC q2 (aC 0) 3 0, arC q3 (aC 0) 3 0]) H _ := w
  refine nz_putf (q0 := 0) X hin w rfl cp_X3_18 (nlt_ rfl) rfl rfl dX3_init_23 (fun H locs w => ?_)
  have w : WN D A H0 ([(h0, .inr (3, [.int (i2 0), .ref q1, .ref q2, .ref q3, .null, .null, .int (i2 0)])), arC q1 (aC 0) 6 0, arC q2 (aC 0) 3 0, arC q3 (aC 0) 3 0]) H _ := w
  refine lv_aload_n hx hb dX3_init_26 rfl (lv_at hl 0 rfl) ?_
  refine nz_bipush X dX3_init_27 (by decide) ?_
  refine nz_new_int (n := 6) X w acw_int (by decide) (nle rfl) (nle rfl) dX3_init_29 (fun q4 H w => ?_)
  have w : WN D A H0 ([(h0, .inr (3, [.int (i2 0), .ref q1, .ref q2, .ref q3, .null, .null, .int (i2 0)])), arC q1 (aC 0) 6 0, arC q2 (aC 0) 3 0, arC q3 (aC 0) 3 0, arC q4 (aC 0) 6 0]) H _ := w
  refine nz_putf (q0 := 0) X hin w rfl cp_X3_21 (nlt_ rfl) rfl rfl dX3_init_31 (fun H locs w => ?_)
  have w : WN D A H0 ([(h0, .inr (3, [.int (i2 0), .ref q1, .ref q2, .ref q3, .ref q4, .null, .int (i2 0)])), arC q1 (aC 0) 6 0, arC q2 (aC 0) 3 0, arC q3 (aC 0) 3 0, arC q4 (aC 0) 6 0]) H _ := w
  refine lv_aload_n hx hb dX3_init_34 rfl (lv_at hl 0 rfl) ?_
  refine nz_bipush X dX3_init_35 (by decide) ?_
  refine nz_new_int (n := 6) X w acw_int (by decide) (nle rfl) (nle rfl) dX3_init_37 (fun q5 H w => ?_)
  have w : WN D A H0 ([(h0, .inr (3, [.int (i2 0), .ref q1, .ref q2, .ref q3, .ref q4, .null, .int (i2 0)])), arC q1 (aC 0) 6 0, arC q2 (aC 0) 3 0, arC q3 (aC 0) 3 0, arC q4 (aC 0) 6 0, arC q5 (aC 0) 6 0]) H _ := w
  refine nz_putf (q0 := 0) X hin w rfl cp_X3_24 (nlt_ rfl) rfl rfl dX3_init_39 (fun H locs w => ?_)
  have w : WN D A H0 ([(h0, .inr (3, [.int (i2 0), .ref q1, .ref q2, .ref q3, .ref q4, .ref q5, .int (i2 0)])), arC q1 (aC 0) 6 0, arC q2 (aC 0) 3 0, arC q3 (aC 0) 3 0, arC q4 (aC 0) 6 0, arC q5 (aC 0) 6 0]) H _ := w
  exact hret (fun k => [h0, q1, q2, q3, q4, q5].getD k 0) H _ 42 ls w dX3_init_42
def bo_X0 : List Value := [.int (i2 0), .null, .null, .null, .null]
theorem bv_X0 : ∀ j, j < 5 → defaultValue (tyX0 j) = vp_V bo_X0 j := fun j hj => match j, hj with
  | 0, _ => rfl
  | 1, _ => rfl
  | 2, _ => rfl
  | 3, _ => rfl
  | 4, _ => rfl
  | k + 5, h => absurd h (by omega)
theorem obw_X0 : Cond.methodLink RX0 3 objectInit ∈ BW ∧ Cond.instanceMethod objectInit ∈ BW ∧ Cond.code objectInit ⟨#[0xb1]⟩ 1 none ∈ BW := ⟨(BW_in (List.mem_of_getElem? (i := 480) (by decide +kernel)) rfl), (BW_in (List.mem_of_getElem? (i := 128) (by decide +kernel)) rfl), (BW_in (List.mem_of_getElem? (i := 129) (by decide +kernel)) rfl)⟩
theorem cp_X0_11 : FldF RX0 11 0 1 (.array .int) := ⟨RX0, TX0, 5, tyX0, rfl, by decide, rfl, rfl, in_X0, (BW_in (List.mem_of_getElem? (i := 484) (by decide +kernel)) rfl), tyX0_ok, nmX0, rfl, by decide +kernel⟩
theorem cp_X0_15 : FldF RX0 15 0 2 (.array .int) := ⟨RX0, TX0, 5, tyX0, rfl, by decide, rfl, rfl, in_X0, (BW_in (List.mem_of_getElem? (i := 485) (by decide +kernel)) rfl), tyX0_ok, nmX0, rfl, by decide +kernel⟩
theorem cp_X0_18 : FldF RX0 18 0 3 (.array .int) := ⟨RX0, TX0, 5, tyX0, rfl, by decide, rfl, rfl, in_X0, (BW_in (List.mem_of_getElem? (i := 486) (by decide +kernel)) rfl), tyX0_ok, nmX0, rfl, by decide +kernel⟩
theorem cp_X0_21 : FldF RX0 21 0 4 (.array .int) := ⟨RX0, TX0, 5, tyX0, rfl, by decide, rfl, rfl, in_X0, (BW_in (List.mem_of_getElem? (i := 487) (by decide +kernel)) rfl), tyX0_ok, nmX0, rfl, by decide +kernel⟩
theorem cg_X0_21 : FldG RX0 21 0 4 := ⟨RX0, TX0, 5, rfl, by decide, rfl, in_X0, (BW_in (List.mem_of_getElem? (i := 487) (by decide +kernel)) rfl)⟩
theorem lf_X0_24 : LkS RX0 24 yJ7_fill_53178 cJ7_fill_53178 4 none 2 := ⟨⟨(BW_in (List.mem_of_getElem? (i := 138) (by decide +kernel)) rfl), (BW_in (List.mem_of_getElem? (i := 481) (by decide +kernel)) rfl), (BW_in (List.mem_of_getElem? (i := 100) (by decide +kernel)) rfl), ⟨by decide +kernel, by decide +kernel, by decide +kernel⟩⟩, (BW_in (List.mem_of_getElem? (i := 137) (by decide +kernel)) rfl)⟩
def rm_X0_init : Room := { frames := 1, cells := 4, slots := 1214, locals := 60 }
def wX0 (aC : Nat → ClassId) (h0 : Nat) (u : Nat → Nat) : va_W := [(h0, .inr (0, [.int (i2 0), .ref (u 1), .ref (u 2), .ref (u 3), .ref (u 4)])), arC (u 1) (aC 0) 400 0, arC (u 2) (aC 0) 400 0, arC (u 3) (aC 0) 400 0, arC (u 4) (aC 0) 14 (-1)]
set_option maxRecDepth 100000 in
set_option maxHeartbeats 4000000 in
theorem k_X0_init {l : Launch} {D : va_G} {aC : Nat → ClassId} (h0 : Nat) : MetN l D aC (Nat → Nat) yX0_init cX0_init 1 rm_X0_init rm_X0_init.cells rm_X0_init.slots h0 (.inr (0, bo_X0)) [] (wX0 aC h0) := by
  refine MetN.of (by decide +kernel) rfl (nle rfl) (fun p e s m args below meth c Q A H0 ls X hin hl w hret => ?_)
  have hx := X.1.1
  have hb := X.1.2.1
  replace hl : lv_has ls 1 [(0, .ref h0)] := hl
  refine lv_aload_n hx hb dX0_init_0 rfl (lv_at hl 0 rfl) ?_
  refine nz_obj X obw_X0 hl.1 ⟨nle rfl, nle rfl⟩ dX0_init_1 ?_
  refine lv_aload_n hx hb dX0_init_4 rfl (lv_at hl 0 rfl) ?_
  refine nz_sipush X dX0_init_5 (by decide) ?_
  refine nz_new_int (n := 400) X w acw_int (by decide) (nle rfl) (nle rfl) dX0_init_8 (fun q1 H w => ?_)
  have w : WN D A H0 ([(h0, .inr (0, [.int (i2 0), .null, .null, .null, .null])), arC q1 (aC 0) 400 0]) H _ := w
  refine nz_putf (q0 := 0) X hin w rfl cp_X0_11 (nlt_ rfl) rfl rfl dX0_init_10 (fun H locs w => ?_)
  have w : WN D A H0 ([(h0, .inr (0, [.int (i2 0), .ref q1, .null, .null, .null])), arC q1 (aC 0) 400 0]) H _ := w
  refine lv_aload_n hx hb dX0_init_13 rfl (lv_at hl 0 rfl) ?_
  refine nz_sipush X dX0_init_14 (by decide) ?_
  refine nz_new_int (n := 400) X w acw_int (by decide) (nle rfl) (nle rfl) dX0_init_17 (fun q2 H w => ?_)
  have w : WN D A H0 ([(h0, .inr (0, [.int (i2 0), .ref q1, .null, .null, .null])), arC q1 (aC 0) 400 0, arC q2 (aC 0) 400 0]) H _ := w
  refine nz_putf (q0 := 0) X hin w rfl cp_X0_15 (nlt_ rfl) rfl rfl dX0_init_19 (fun H locs w => ?_)
  have w : WN D A H0 ([(h0, .inr (0, [.int (i2 0), .ref q1, .ref q2, .null, .null])), arC q1 (aC 0) 400 0, arC q2 (aC 0) 400 0]) H _ := w
  refine lv_aload_n hx hb dX0_init_22 rfl (lv_at hl 0 rfl) ?_
  refine nz_sipush X dX0_init_23 (by decide) ?_
  refine nz_new_int (n := 400) X w acw_int (by decide) (nle rfl) (nle rfl) dX0_init_26 (fun q3 H w => ?_)
  have w : WN D A H0 ([(h0, .inr (0, [.int (i2 0), .ref q1, .ref q2, .null, .null])), arC q1 (aC 0) 400 0, arC q2 (aC 0) 400 0, arC q3 (aC 0) 400 0]) H _ := w
  refine nz_putf (q0 := 0) X hin w rfl cp_X0_18 (nlt_ rfl) rfl rfl dX0_init_28 (fun H locs w => ?_)
  have w : WN D A H0 ([(h0, .inr (0, [.int (i2 0), .ref q1, .ref q2, .ref q3, .null])), arC q1 (aC 0) 400 0, arC q2 (aC 0) 400 0, arC q3 (aC 0) 400 0]) H _ := w
  refine lv_aload_n hx hb dX0_init_31 rfl (lv_at hl 0 rfl) ?_
  refine nz_bipush X dX0_init_32 (by decide) ?_
  refine nz_new_int (n := 14) X w acw_int (by decide) (nle rfl) (nle rfl) dX0_init_34 (fun q4 H w => ?_)
  have w : WN D A H0 ([(h0, .inr (0, [.int (i2 0), .ref q1, .ref q2, .ref q3, .null])), arC q1 (aC 0) 400 0, arC q2 (aC 0) 400 0, arC q3 (aC 0) 400 0, arC q4 (aC 0) 14 0]) H _ := w
  refine nz_putf (q0 := 0) X hin w rfl cp_X0_21 (nlt_ rfl) rfl rfl dX0_init_36 (fun H locs w => ?_)
  have w : WN D A H0 ([(h0, .inr (0, [.int (i2 0), .ref q1, .ref q2, .ref q3, .ref q4])), arC q1 (aC 0) 400 0, arC q2 (aC 0) 400 0, arC q3 (aC 0) 400 0, arC q4 (aC 0) 14 0]) H _ := w
  refine lv_aload_n hx hb dX0_init_39 rfl (lv_at hl 0 rfl) ?_
  refine nz_get (q0 := 0) X w rfl cg_X0_21 rfl dX0_init_40 ?_
  refine nz_iconst X dX0_init_43 ?_
  refine nz_fill (q0 := 4) (n := 14) (v0 := 0) (v := (-1)) X w rfl (by decide) (inL rfl) lf_X0_24 ⟨nle rfl, nle rfl⟩ ⟨nle rfl, nle rfl⟩ hl.1 (nle rfl) dX0_init_44 (fun H locs w => ?_)
  have w : WN D A H0 ([(h0, .inr (0, [.int (i2 0), .ref q1, .ref q2, .ref q3, .ref q4])), arC q1 (aC 0) 400 0, arC q2 (aC 0) 400 0, arC q3 (aC 0) 400 0, arC q4 (aC 0) 14 (-1)]) H _ := w
  exact hret (fun k => [h0, q1, q2, q3, q4].getD k 0) H _ 47 ls w dX0_init_47
def bo_X7 : List Value := [.int (i2 0), .null, .null, .null, .null, .null, .null, .null, .null]
theorem bv_X7 : ∀ j, j < 9 → defaultValue (tyX7 j) = vp_V bo_X7 j := fun j hj => match j, hj with
  | 0, _ => rfl
  | 1, _ => rfl
  | 2, _ => rfl
  | 3, _ => rfl
  | 4, _ => rfl
  | 5, _ => rfl
  | 6, _ => rfl
  | 7, _ => rfl
  | 8, _ => rfl
  | k + 9, h => absurd h (by omega)
theorem obw_X7 : Cond.methodLink RX7 3 objectInit ∈ BW ∧ Cond.instanceMethod objectInit ∈ BW ∧ Cond.code objectInit ⟨#[0xb1]⟩ 1 none ∈ BW := ⟨(BW_in (List.mem_of_getElem? (i := 505) (by decide +kernel)) rfl), (BW_in (List.mem_of_getElem? (i := 128) (by decide +kernel)) rfl), (BW_in (List.mem_of_getElem? (i := 129) (by decide +kernel)) rfl)⟩
theorem cp_X7_11 : FldF RX7 11 7 1 (.array .int) := ⟨RX7, TX7, 9, tyX7, rfl, by decide, rfl, rfl, in_X7, (BW_in (List.mem_of_getElem? (i := 511) (by decide +kernel)) rfl), tyX7_ok, nmX7, rfl, by decide +kernel⟩
theorem cp_X7_15 : FldF RX7 15 7 2 (.array .int) := ⟨RX7, TX7, 9, tyX7, rfl, by decide, rfl, rfl, in_X7, (BW_in (List.mem_of_getElem? (i := 514) (by decide +kernel)) rfl), tyX7_ok, nmX7, rfl, by decide +kernel⟩
theorem cp_X7_18 : FldF RX7 18 7 3 (.array .int) := ⟨RX7, TX7, 9, tyX7, rfl, by decide, rfl, rfl, in_X7, (BW_in (List.mem_of_getElem? (i := 518) (by decide +kernel)) rfl), tyX7_ok, nmX7, rfl, by decide +kernel⟩
theorem cp_X7_21 : FldF RX7 21 7 4 (.array .int) := ⟨RX7, TX7, 9, tyX7, rfl, by decide, rfl, rfl, in_X7, (BW_in (List.mem_of_getElem? (i := 521) (by decide +kernel)) rfl), tyX7_ok, nmX7, rfl, by decide +kernel⟩
theorem acw_boolean : Cond.arrayClass .boolean ∈ BW := (BW_in (List.mem_of_getElem? (i := 555) (by decide +kernel)) rfl)
theorem cp_X7_24 : FldF RX7 24 7 5 (.array .boolean) := ⟨RX7, TX7, 9, tyX7, rfl, by decide, rfl, rfl, in_X7, (BW_in (List.mem_of_getElem? (i := 524) (by decide +kernel)) rfl), tyX7_ok, nmX7, rfl, by decide +kernel⟩
theorem cp_X7_28 : FldF RX7 28 7 6 (.array .int) := ⟨RX7, TX7, 9, tyX7, rfl, by decide, rfl, rfl, in_X7, (BW_in (List.mem_of_getElem? (i := 527) (by decide +kernel)) rfl), tyX7_ok, nmX7, rfl, by decide +kernel⟩
theorem cp_X7_31 : FldF RX7 31 7 7 (.array .int) := ⟨RX7, TX7, 9, tyX7, rfl, by decide, rfl, rfl, in_X7, (BW_in (List.mem_of_getElem? (i := 530) (by decide +kernel)) rfl), tyX7_ok, nmX7, rfl, by decide +kernel⟩
theorem cp_X7_34 : FldF RX7 34 7 8 (.array .int) := ⟨RX7, TX7, 9, tyX7, rfl, by decide, rfl, rfl, in_X7, (BW_in (List.mem_of_getElem? (i := 533) (by decide +kernel)) rfl), tyX7_ok, nmX7, rfl, by decide +kernel⟩
def rm_X7_init : Room := { frames := 1, cells := 8, slots := 592, locals := 60 }
def wX7 (aC : Nat → ClassId) (h0 : Nat) (u : Nat → Nat) : va_W := [(h0, .inr (7, [.int (i2 0), .ref (u 1), .ref (u 2), .ref (u 3), .ref (u 4), .ref (u 5), .ref (u 6), .ref (u 7), .ref (u 8)])), arC (u 1) (aC 0) 16 0, arC (u 2) (aC 0) 16 0, arC (u 3) (aC 0) 16 0, arC (u 4) (aC 0) 32 0, arC (u 5) (aC 1) 128 0, arC (u 6) (aC 0) 128 0, arC (u 7) (aC 0) 128 0, arC (u 8) (aC 0) 128 0]
set_option maxRecDepth 100000 in
set_option maxHeartbeats 4000000 in
theorem k_X7_init {l : Launch} {D : va_G} {aC : Nat → ClassId} (h0 : Nat) : MetN l D aC (Nat → Nat) yX7_init cX7_init 1 rm_X7_init rm_X7_init.cells rm_X7_init.slots h0 (.inr (7, bo_X7)) [] (wX7 aC h0) := by
  refine MetN.of (by decide +kernel) rfl (nle rfl) (fun p e s m args below meth c Q A H0 ls X hin hl w hret => ?_)
  have hx := X.1.1
  have hb := X.1.2.1
  replace hl : lv_has ls 1 [(0, .ref h0)] := hl
  refine lv_aload_n hx hb dX7_init_0 rfl (lv_at hl 0 rfl) ?_
  refine nz_obj X obw_X7 hl.1 ⟨nle rfl, nle rfl⟩ dX7_init_1 ?_
  refine lv_aload_n hx hb dX7_init_4 rfl (lv_at hl 0 rfl) ?_
  refine nz_bipush X dX7_init_5 (by decide) ?_
  refine nz_new_int (n := 16) X w acw_int (by decide) (nle rfl) (nle rfl) dX7_init_7 (fun q1 H w => ?_)
  have w : WN D A H0 ([(h0, .inr (7, [.int (i2 0), .null, .null, .null, .null, .null, .null, .null, .null])), arC q1 (aC 0) 16 0]) H _ := w
  refine nz_putf (q0 := 0) X hin w rfl cp_X7_11 (nlt_ rfl) rfl rfl dX7_init_9 (fun H locs w => ?_)
  have w : WN D A H0 ([(h0, .inr (7, [.int (i2 0), .ref q1, .null, .null, .null, .null, .null, .null, .null])), arC q1 (aC 0) 16 0]) H _ := w
  refine lv_aload_n hx hb dX7_init_12 rfl (lv_at hl 0 rfl) ?_
  refine nz_bipush X dX7_init_13 (by decide) ?_
  refine nz_new_int (n := 16) X w acw_int (by decide) (nle rfl) (nle rfl) dX7_init_15 (fun q2 H w => ?_)
  have w : WN D A H0 ([(h0, .inr (7, [.int (i2 0), .ref q1, .null, .null, .null, .null, .null, .null, .null])), arC q1 (aC 0) 16 0, arC q2 (aC 0) 16 0]) H _ := w
  refine nz_putf (q0 := 0) X hin w rfl cp_X7_15 (nlt_ rfl) rfl rfl dX7_init_17 (fun H locs w => ?_)
  have w : WN D A H0 ([(h0, .inr (7, [.int (i2 0), .ref q1, .ref q2, .null, .null, .null, .null, .null, .null])), arC q1 (aC 0) 16 0, arC q2 (aC 0) 16 0]) H _ := w
  refine lv_aload_n hx hb dX7_init_20 rfl (lv_at hl 0 rfl) ?_
  refine nz_bipush X dX7_init_21 (by decide) ?_
  refine nz_new_int (n := 16) X w acw_int (by decide) (nle rfl) (nle rfl) dX7_init_23 (fun q3 H w => ?_)
  have w : WN D A H0 ([(h0, .inr (7, [.int (i2 0), .ref q1, .ref q2, .null, .null, .null, .null, .null, .null])), arC q1 (aC 0) 16 0, arC q2 (aC 0) 16 0, arC q3 (aC 0) 16 0]) H _ := w
  refine nz_putf (q0 := 0) X hin w rfl cp_X7_18 (nlt_ rfl) rfl rfl dX7_init_25 (fun H locs w => ?_)
  have w : WN D A H0 ([(h0, .inr (7, [.int (i2 0), .ref q1, .ref q2, .ref q3, .null, .null, .null, .null, .null])), arC q1 (aC 0) 16 0, arC q2 (aC 0) 16 0, arC q3 (aC 0) 16 0]) H _ := w
  refine lv_aload_n hx hb dX7_init_28 rfl (lv_at hl 0 rfl) ?_
  refine nz_bipush X dX7_init_29 (by decide) ?_
  refine nz_new_int (n := 32) X w acw_int (by decide) (nle rfl) (nle rfl) dX7_init_31 (fun q4 H w => ?_)
  have w : WN D A H0 ([(h0, .inr (7, [.int (i2 0), .ref q1, .ref q2, .ref q3, .null, .null, .null, .null, .null])), arC q1 (aC 0) 16 0, arC q2 (aC 0) 16 0, arC q3 (aC 0) 16 0, arC q4 (aC 0) 32 0]) H _ := w
  refine nz_putf (q0 := 0) X hin w rfl cp_X7_21 (nlt_ rfl) rfl rfl dX7_init_33 (fun H locs w => ?_)
  have w : WN D A H0 ([(h0, .inr (7, [.int (i2 0), .ref q1, .ref q2, .ref q3, .ref q4, .null, .null, .null, .null])), arC q1 (aC 0) 16 0, arC q2 (aC 0) 16 0, arC q3 (aC 0) 16 0, arC q4 (aC 0) 32 0]) H _ := w
  refine lv_aload_n hx hb dX7_init_36 rfl (lv_at hl 0 rfl) ?_
  refine nz_sipush X dX7_init_37 (by decide) ?_
  refine nz_new_boolean (n := 128) X w acw_boolean (by decide) (nle rfl) (nle rfl) dX7_init_40 (fun q5 H w => ?_)
  have w : WN D A H0 ([(h0, .inr (7, [.int (i2 0), .ref q1, .ref q2, .ref q3, .ref q4, .null, .null, .null, .null])), arC q1 (aC 0) 16 0, arC q2 (aC 0) 16 0, arC q3 (aC 0) 16 0, arC q4 (aC 0) 32 0, arC q5 (aC 1) 128 0]) H _ := w
  refine nz_putf (q0 := 0) X hin w rfl cp_X7_24 (nlt_ rfl) rfl rfl dX7_init_42 (fun H locs w => ?_)
  have w : WN D A H0 ([(h0, .inr (7, [.int (i2 0), .ref q1, .ref q2, .ref q3, .ref q4, .ref q5, .null, .null, .null])), arC q1 (aC 0) 16 0, arC q2 (aC 0) 16 0, arC q3 (aC 0) 16 0, arC q4 (aC 0) 32 0, arC q5 (aC 1) 128 0]) H _ := w
  refine lv_aload_n hx hb dX7_init_45 rfl (lv_at hl 0 rfl) ?_
  refine nz_sipush X dX7_init_46 (by decide) ?_
  refine nz_new_int (n := 128) X w acw_int (by decide) (nle rfl) (nle rfl) dX7_init_49 (fun q6 H w => ?_)
  have w : WN D A H0 ([(h0, .inr (7, [.int (i2 0), .ref q1, .ref q2, .ref q3, .ref q4, .ref q5, .null, .null, .null])), arC q1 (aC 0) 16 0, arC q2 (aC 0) 16 0, arC q3 (aC 0) 16 0, arC q4 (aC 0) 32 0, arC q5 (aC 1) 128 0, arC q6 (aC 0) 128 0]) H _ := w
  refine nz_putf (q0 := 0) X hin w rfl cp_X7_28 (nlt_ rfl) rfl rfl dX7_init_51 (fun H locs w => ?_)
  have w : WN D A H0 ([(h0, .inr (7, [.int (i2 0), .ref q1, .ref q2, .ref q3, .ref q4, .ref q5, .ref q6, .null, .null])), arC q1 (aC 0) 16 0, arC q2 (aC 0) 16 0, arC q3 (aC 0) 16 0, arC q4 (aC 0) 32 0, arC q5 (aC 1) 128 0, arC q6 (aC 0) 128 0]) H _ := w
  refine lv_aload_n hx hb dX7_init_54 rfl (lv_at hl 0 rfl) ?_
  refine nz_sipush X dX7_init_55 (by decide) ?_
  refine nz_new_int (n := 128) X w acw_int (by decide) (nle rfl) (nle rfl) dX7_init_58 (fun q7 H w => ?_)
  have w : WN D A H0 ([(h0, .inr (7, [.int (i2 0), .ref q1, .ref q2, .ref q3, .ref q4, .ref q5, .ref q6, .null, .null])), arC q1 (aC 0) 16 0, arC q2 (aC 0) 16 0, arC q3 (aC 0) 16 0, arC q4 (aC 0) 32 0, arC q5 (aC 1) 128 0, arC q6 (aC 0) 128 0, arC q7 (aC 0) 128 0]) H _ := w
  refine nz_putf (q0 := 0) X hin w rfl cp_X7_31 (nlt_ rfl) rfl rfl dX7_init_60 (fun H locs w => ?_)
  have w : WN D A H0 ([(h0, .inr (7, [.int (i2 0), .ref q1, .ref q2, .ref q3, .ref q4, .ref q5, .ref q6, .ref q7, .null])), arC q1 (aC 0) 16 0, arC q2 (aC 0) 16 0, arC q3 (aC 0) 16 0, arC q4 (aC 0) 32 0, arC q5 (aC 1) 128 0, arC q6 (aC 0) 128 0, arC q7 (aC 0) 128 0]) H _ := w
  refine lv_aload_n hx hb dX7_init_63 rfl (lv_at hl 0 rfl) ?_
  refine nz_sipush X dX7_init_64 (by decide) ?_
  refine nz_new_int (n := 128) X w acw_int (by decide) (nle rfl) (nle rfl) dX7_init_67 (fun q8 H w => ?_)
  have w : WN D A H0 ([(h0, .inr (7, [.int (i2 0), .ref q1, .ref q2, .ref q3, .ref q4, .ref q5, .ref q6, .ref q7, .null])), arC q1 (aC 0) 16 0, arC q2 (aC 0) 16 0, arC q3 (aC 0) 16 0, arC q4 (aC 0) 32 0, arC q5 (aC 1) 128 0, arC q6 (aC 0) 128 0, arC q7 (aC 0) 128 0, arC q8 (aC 0) 128 0]) H _ := w
  refine nz_putf (q0 := 0) X hin w rfl cp_X7_34 (nlt_ rfl) rfl rfl dX7_init_69 (fun H locs w => ?_)
  have w : WN D A H0 ([(h0, .inr (7, [.int (i2 0), .ref q1, .ref q2, .ref q3, .ref q4, .ref q5, .ref q6, .ref q7, .ref q8])), arC q1 (aC 0) 16 0, arC q2 (aC 0) 16 0, arC q3 (aC 0) 16 0, arC q4 (aC 0) 32 0, arC q5 (aC 1) 128 0, arC q6 (aC 0) 128 0, arC q7 (aC 0) 128 0, arC q8 (aC 0) 128 0]) H _ := w
  exact hret (fun k => [h0, q1, q2, q3, q4, q5, q6, q7, q8].getD k 0) H _ 72 ls w dX7_init_72
def bo_X10 : List Value := [.null, .null, .null, .null, .null, .null, .null, .null, .null, .null, .null, .null, .null, .int (i2 0), .int (i2 0), .int (i2 0), .int (i2 0), .int (i2 0), .int (i2 0)]
theorem bv_X10 : ∀ j, j < 19 → defaultValue (tyX10 j) = vp_V bo_X10 j := fun j hj => match j, hj with
  | 0, _ => rfl
  | 1, _ => rfl
  | 2, _ => rfl
  | 3, _ => rfl
  | 4, _ => rfl
  | 5, _ => rfl
  | 6, _ => rfl
  | 7, _ => rfl
  | 8, _ => rfl
  | 9, _ => rfl
  | 10, _ => rfl
  | 11, _ => rfl
  | 12, _ => rfl
  | 13, _ => rfl
  | 14, _ => rfl
  | 15, _ => rfl
  | 16, _ => rfl
  | 17, _ => rfl
  | 18, _ => rfl
  | k + 19, h => absurd h (by omega)
theorem obw_X10 : Cond.methodLink RX10 1 objectInit ∈ BW ∧ Cond.instanceMethod objectInit ∈ BW ∧ Cond.code objectInit ⟨#[0xb1]⟩ 1 none ∈ BW := ⟨(BW_in (List.mem_of_getElem? (i := 127) (by decide +kernel)) rfl), (BW_in (List.mem_of_getElem? (i := 128) (by decide +kernel)) rfl), (BW_in (List.mem_of_getElem? (i := 129) (by decide +kernel)) rfl)⟩
theorem nw_X10_7 : Cond.classLink RX10 7 RX1 ∈ BW ∧ Cond.instantiable RX1 15 ∈ BW ∧ Cond.initialized RX1 ∈ BW := ⟨(BW_in (List.mem_of_getElem? (i := 130) (by decide +kernel)) rfl), (BW_in (List.mem_of_getElem? (i := 131) (by decide +kernel)) rfl), (BW_in (List.mem_of_getElem? (i := 99) (by decide +kernel)) rfl)⟩
theorem lc_X10_9 : LkI RX10 9 yX1_init cX1_init 1 0 := ⟨⟨(BW_in (List.mem_of_getElem? (i := 134) (by decide +kernel)) rfl), (BW_in (List.mem_of_getElem? (i := 132) (by decide +kernel)) rfl), (BW_in (List.mem_of_getElem? (i := 99) (by decide +kernel)) rfl), ⟨by decide +kernel, by decide +kernel, by decide +kernel⟩⟩, rfl, (BW_in (List.mem_of_getElem? (i := 133) (by decide +kernel)) rfl)⟩
theorem cp_X10_10 : FldF RX10 10 10 0 (.object "ClassMaker$Facts") := ⟨RX10, TX10, 19, tyX10, rfl, by decide, rfl, rfl, in_X10, (BW_in (List.mem_of_getElem? (i := 556) (by decide +kernel)) rfl), tyX10_ok, nmX10, rfl, by decide +kernel⟩
theorem nw_X10_16 : Cond.classLink RX10 16 RX5 ∈ BW ∧ Cond.instantiable RX5 7 ∈ BW ∧ Cond.initialized RX5 ∈ BW := ⟨(BW_in (List.mem_of_getElem? (i := 217) (by decide +kernel)) rfl), (BW_in (List.mem_of_getElem? (i := 218) (by decide +kernel)) rfl), (BW_in (List.mem_of_getElem? (i := 101) (by decide +kernel)) rfl)⟩
theorem ln_X5 : LkIN yX5_init cX5_init 1 0 := ⟨(BW_in (List.mem_of_getElem? (i := 221) (by decide +kernel)) rfl), (BW_in (List.mem_of_getElem? (i := 101) (by decide +kernel)) rfl), ⟨by decide +kernel, by decide +kernel, by decide +kernel⟩, rfl, (BW_in (List.mem_of_getElem? (i := 220) (by decide +kernel)) rfl)⟩
theorem cp_X10_19 : FldF RX10 19 10 1 (.object "ClassMaker$Marks") := ⟨RX10, TX10, 19, tyX10, rfl, by decide, rfl, rfl, in_X10, (BW_in (List.mem_of_getElem? (i := 557) (by decide +kernel)) rfl), tyX10_ok, nmX10, rfl, by decide +kernel⟩
theorem nw_X10_23 : Cond.classLink RX10 23 RX9 ∈ BW ∧ Cond.instantiable RX9 6 ∈ BW ∧ Cond.initialized RX9 ∈ BW := ⟨(BW_in (List.mem_of_getElem? (i := 246) (by decide +kernel)) rfl), (BW_in (List.mem_of_getElem? (i := 247) (by decide +kernel)) rfl), (BW_in (List.mem_of_getElem? (i := 102) (by decide +kernel)) rfl)⟩
theorem ln_X9 : LkIN yX9_init cX9_init 1 0 := ⟨(BW_in (List.mem_of_getElem? (i := 250) (by decide +kernel)) rfl), (BW_in (List.mem_of_getElem? (i := 102) (by decide +kernel)) rfl), ⟨by decide +kernel, by decide +kernel, by decide +kernel⟩, rfl, (BW_in (List.mem_of_getElem? (i := 249) (by decide +kernel)) rfl)⟩
theorem cp_X10_26 : FldF RX10 26 10 2 (.object "ClassMaker$Tape") := ⟨RX10, TX10, 19, tyX10, rfl, by decide, rfl, rfl, in_X10, (BW_in (List.mem_of_getElem? (i := 558) (by decide +kernel)) rfl), tyX10_ok, nmX10, rfl, by decide +kernel⟩
theorem nw_X10_30 : Cond.classLink RX10 30 RX6 ∈ BW ∧ Cond.instantiable RX6 8 ∈ BW ∧ Cond.initialized RX6 ∈ BW := ⟨(BW_in (List.mem_of_getElem? (i := 277) (by decide +kernel)) rfl), (BW_in (List.mem_of_getElem? (i := 278) (by decide +kernel)) rfl), (BW_in (List.mem_of_getElem? (i := 103) (by decide +kernel)) rfl)⟩
theorem cg_X10_26 : FldG RX10 26 10 2 := ⟨RX10, TX10, 19, rfl, by decide, rfl, in_X10, (BW_in (List.mem_of_getElem? (i := 558) (by decide +kernel)) rfl)⟩
theorem lc_X10_32 : LkI RX10 32 yX6_init cX6_init 2 1 := ⟨⟨(BW_in (List.mem_of_getElem? (i := 281) (by decide +kernel)) rfl), (BW_in (List.mem_of_getElem? (i := 279) (by decide +kernel)) rfl), (BW_in (List.mem_of_getElem? (i := 103) (by decide +kernel)) rfl), ⟨by decide +kernel, by decide +kernel, by decide +kernel⟩⟩, rfl, (BW_in (List.mem_of_getElem? (i := 280) (by decide +kernel)) rfl)⟩
theorem cp_X10_35 : FldF RX10 35 10 3 (.object "ClassMaker$Parser") := ⟨RX10, TX10, 19, tyX10, rfl, by decide, rfl, rfl, in_X10, (BW_in (List.mem_of_getElem? (i := 559) (by decide +kernel)) rfl), tyX10_ok, nmX10, rfl, by decide +kernel⟩
theorem nw_X10_39 : Cond.classLink RX10 39 RX4 ∈ BW ∧ Cond.instantiable RX4 8 ∈ BW ∧ Cond.initialized RX4 ∈ BW := ⟨(BW_in (List.mem_of_getElem? (i := 310) (by decide +kernel)) rfl), (BW_in (List.mem_of_getElem? (i := 311) (by decide +kernel)) rfl), (BW_in (List.mem_of_getElem? (i := 104) (by decide +kernel)) rfl)⟩
theorem cg_X10_10 : FldG RX10 10 10 0 := ⟨RX10, TX10, 19, rfl, by decide, rfl, in_X10, (BW_in (List.mem_of_getElem? (i := 556) (by decide +kernel)) rfl)⟩
theorem cg_X10_19 : FldG RX10 19 10 1 := ⟨RX10, TX10, 19, rfl, by decide, rfl, in_X10, (BW_in (List.mem_of_getElem? (i := 557) (by decide +kernel)) rfl)⟩
theorem lc_X10_41 : LkI RX10 41 yX4_init cX4_init 3 2 := ⟨⟨(BW_in (List.mem_of_getElem? (i := 314) (by decide +kernel)) rfl), (BW_in (List.mem_of_getElem? (i := 312) (by decide +kernel)) rfl), (BW_in (List.mem_of_getElem? (i := 104) (by decide +kernel)) rfl), ⟨by decide +kernel, by decide +kernel, by decide +kernel⟩⟩, rfl, (BW_in (List.mem_of_getElem? (i := 313) (by decide +kernel)) rfl)⟩
theorem cp_X10_44 : FldF RX10 44 10 4 (.object "ClassMaker$Judge") := ⟨RX10, TX10, 19, tyX10, rfl, by decide, rfl, rfl, in_X10, (BW_in (List.mem_of_getElem? (i := 560) (by decide +kernel)) rfl), tyX10_ok, nmX10, rfl, by decide +kernel⟩
theorem nw_X10_48 : Cond.classLink RX10 48 RX8 ∈ BW ∧ Cond.instantiable RX8 20 ∈ BW ∧ Cond.initialized RX8 ∈ BW := ⟨(BW_in (List.mem_of_getElem? (i := 342) (by decide +kernel)) rfl), (BW_in (List.mem_of_getElem? (i := 343) (by decide +kernel)) rfl), (BW_in (List.mem_of_getElem? (i := 105) (by decide +kernel)) rfl)⟩
theorem cg_X10_44 : FldG RX10 44 10 4 := ⟨RX10, TX10, 19, rfl, by decide, rfl, in_X10, (BW_in (List.mem_of_getElem? (i := 560) (by decide +kernel)) rfl)⟩
theorem lc_X10_50 : LkI RX10 50 yX8_init cX8_init 3 2 := ⟨⟨(BW_in (List.mem_of_getElem? (i := 346) (by decide +kernel)) rfl), (BW_in (List.mem_of_getElem? (i := 344) (by decide +kernel)) rfl), (BW_in (List.mem_of_getElem? (i := 105) (by decide +kernel)) rfl), ⟨by decide +kernel, by decide +kernel, by decide +kernel⟩⟩, rfl, (BW_in (List.mem_of_getElem? (i := 345) (by decide +kernel)) rfl)⟩
theorem cp_X10_53 : FldF RX10 53 10 5 (.object "ClassMaker$Search") := ⟨RX10, TX10, 19, tyX10, rfl, by decide, rfl, rfl, in_X10, (BW_in (List.mem_of_getElem? (i := 561) (by decide +kernel)) rfl), tyX10_ok, nmX10, rfl, by decide +kernel⟩
theorem nw_X10_57 : Cond.classLink RX10 57 RX2 ∈ BW ∧ Cond.instantiable RX2 7 ∈ BW ∧ Cond.initialized RX2 ∈ BW := ⟨(BW_in (List.mem_of_getElem? (i := 412) (by decide +kernel)) rfl), (BW_in (List.mem_of_getElem? (i := 413) (by decide +kernel)) rfl), (BW_in (List.mem_of_getElem? (i := 106) (by decide +kernel)) rfl)⟩
theorem lc_X10_59 : LkI RX10 59 yX2_init cX2_init 3 2 := ⟨⟨(BW_in (List.mem_of_getElem? (i := 416) (by decide +kernel)) rfl), (BW_in (List.mem_of_getElem? (i := 414) (by decide +kernel)) rfl), (BW_in (List.mem_of_getElem? (i := 106) (by decide +kernel)) rfl), ⟨by decide +kernel, by decide +kernel, by decide +kernel⟩⟩, rfl, (BW_in (List.mem_of_getElem? (i := 415) (by decide +kernel)) rfl)⟩
theorem cp_X10_60 : FldF RX10 60 10 6 (.object "ClassMaker$Hand") := ⟨RX10, TX10, 19, tyX10, rfl, by decide, rfl, rfl, in_X10, (BW_in (List.mem_of_getElem? (i := 562) (by decide +kernel)) rfl), tyX10_ok, nmX10, rfl, by decide +kernel⟩
theorem nw_X10_64 : Cond.classLink RX10 64 RX3 ∈ BW ∧ Cond.instantiable RX3 7 ∈ BW ∧ Cond.initialized RX3 ∈ BW := ⟨(BW_in (List.mem_of_getElem? (i := 444) (by decide +kernel)) rfl), (BW_in (List.mem_of_getElem? (i := 445) (by decide +kernel)) rfl), (BW_in (List.mem_of_getElem? (i := 107) (by decide +kernel)) rfl)⟩
theorem ln_X3 : LkIN yX3_init cX3_init 1 0 := ⟨(BW_in (List.mem_of_getElem? (i := 448) (by decide +kernel)) rfl), (BW_in (List.mem_of_getElem? (i := 107) (by decide +kernel)) rfl), ⟨by decide +kernel, by decide +kernel, by decide +kernel⟩, rfl, (BW_in (List.mem_of_getElem? (i := 447) (by decide +kernel)) rfl)⟩
theorem cp_X10_67 : FldF RX10 67 10 7 (.object "ClassMaker$Helpers") := ⟨RX10, TX10, 19, tyX10, rfl, by decide, rfl, rfl, in_X10, (BW_in (List.mem_of_getElem? (i := 563) (by decide +kernel)) rfl), tyX10_ok, nmX10, rfl, by decide +kernel⟩
theorem nw_X10_71 : Cond.classLink RX10 71 RX0 ∈ BW ∧ Cond.instantiable RX0 5 ∈ BW ∧ Cond.initialized RX0 ∈ BW := ⟨(BW_in (List.mem_of_getElem? (i := 475) (by decide +kernel)) rfl), (BW_in (List.mem_of_getElem? (i := 476) (by decide +kernel)) rfl), (BW_in (List.mem_of_getElem? (i := 108) (by decide +kernel)) rfl)⟩
theorem lc_X10_73 : LkI RX10 73 yX0_init cX0_init 1 0 := ⟨⟨(BW_in (List.mem_of_getElem? (i := 479) (by decide +kernel)) rfl), (BW_in (List.mem_of_getElem? (i := 477) (by decide +kernel)) rfl), (BW_in (List.mem_of_getElem? (i := 108) (by decide +kernel)) rfl), ⟨by decide +kernel, by decide +kernel, by decide +kernel⟩⟩, rfl, (BW_in (List.mem_of_getElem? (i := 478) (by decide +kernel)) rfl)⟩
theorem cp_X10_74 : FldF RX10 74 10 8 (.object "ClassMaker$Book") := ⟨RX10, TX10, 19, tyX10, rfl, by decide, rfl, rfl, in_X10, (BW_in (List.mem_of_getElem? (i := 564) (by decide +kernel)) rfl), tyX10_ok, nmX10, rfl, by decide +kernel⟩
theorem cp_X10_78 : FldF RX10 78 10 9 (.array .int) := ⟨RX10, TX10, 19, tyX10, rfl, by decide, rfl, rfl, in_X10, (BW_in (List.mem_of_getElem? (i := 565) (by decide +kernel)) rfl), tyX10_ok, nmX10, rfl, by decide +kernel⟩
theorem cg_X10_78 : FldG RX10 78 10 9 := ⟨RX10, TX10, 19, rfl, by decide, rfl, in_X10, (BW_in (List.mem_of_getElem? (i := 565) (by decide +kernel)) rfl)⟩
theorem lf_X10_82 : LkS RX10 82 yJ7_fill_53178 cJ7_fill_53178 4 none 2 := ⟨⟨(BW_in (List.mem_of_getElem? (i := 138) (by decide +kernel)) rfl), (BW_in (List.mem_of_getElem? (i := 499) (by decide +kernel)) rfl), (BW_in (List.mem_of_getElem? (i := 100) (by decide +kernel)) rfl), ⟨by decide +kernel, by decide +kernel, by decide +kernel⟩⟩, (BW_in (List.mem_of_getElem? (i := 137) (by decide +kernel)) rfl)⟩
theorem cp_X10_88 : FldF RX10 88 10 10 (.array .int) := ⟨RX10, TX10, 19, tyX10, rfl, by decide, rfl, rfl, in_X10, (BW_in (List.mem_of_getElem? (i := 566) (by decide +kernel)) rfl), tyX10_ok, nmX10, rfl, by decide +kernel⟩
theorem nw_X10_91 : Cond.classLink RX10 91 RX7 ∈ BW ∧ Cond.instantiable RX7 9 ∈ BW ∧ Cond.initialized RX7 ∈ BW := ⟨(BW_in (List.mem_of_getElem? (i := 500) (by decide +kernel)) rfl), (BW_in (List.mem_of_getElem? (i := 501) (by decide +kernel)) rfl), (BW_in (List.mem_of_getElem? (i := 109) (by decide +kernel)) rfl)⟩
theorem ln_X7 : LkIN yX7_init cX7_init 1 0 := ⟨(BW_in (List.mem_of_getElem? (i := 504) (by decide +kernel)) rfl), (BW_in (List.mem_of_getElem? (i := 109) (by decide +kernel)) rfl), ⟨by decide +kernel, by decide +kernel, by decide +kernel⟩, rfl, (BW_in (List.mem_of_getElem? (i := 503) (by decide +kernel)) rfl)⟩
theorem cp_X10_94 : FldP RX10 94 10 11 (.object "ClassMaker$Rules") := ⟨RX10, TX10, 19, tyX10, rfl, by decide, rfl, in_X10, (BW_in (List.mem_of_getElem? (i := 567) (by decide +kernel)) rfl), tyX10_ok, nmX10, rfl, by decide +kernel⟩
theorem cp_X10_98 : FldP RX10 98 10 12 (.object "ClassMaker$Rules") := ⟨RX10, TX10, 19, tyX10, rfl, by decide, rfl, in_X10, (BW_in (List.mem_of_getElem? (i := 568) (by decide +kernel)) rfl), tyX10_ok, nmX10, rfl, by decide +kernel⟩
theorem cp_X10_101 : FldP RX10 101 10 15 .int := ⟨RX10, TX10, 19, tyX10, rfl, by decide, rfl, in_X10, (BW_in (List.mem_of_getElem? (i := 571) (by decide +kernel)) rfl), tyX10_ok, nmX10, rfl, by decide +kernel⟩
def rm_X10_init : Room := { frames := 2, cells := 79, slots := 8078, locals := 200 }
def wX10 (aC : Nat → ClassId) (h0 : Nat) (u : Nat → Nat → Nat) : va_W := (h0, .inr (10, [.ref (u 1 0), .ref (u 2 0), .ref (u 3 0), .ref (u 4 0), .ref (u 5 0), .ref (u 6 0), .ref (u 7 0), .ref (u 8 0), .ref (u 9 0), .ref (u 0 1), .ref (u 0 2), .ref (u 10 0), .ref (u 11 0), .int (i2 0), .int (i2 0), .int (i2 (-1)), .int (i2 0), .int (i2 0), .int (i2 0)])) :: (((((((((((((wX1 aC (u 1 0) (u 1)) ++ wX5 aC (u 2 0) (u 2)) ++ wX9 aC (u 3 0) (u 3)) ++ wX6 aC (u 4 0) (u 3 0) (u 4)) ++ wX4 aC (u 5 0) (u 1 0) (u 2 0) (u 5)) ++ wX8 aC (u 6 0) (u 1 0) (u 5 0) (u 6)) ++ wX2 aC (u 7 0) (u 1 0) (u 5 0) (u 7)) ++ wX3 aC (u 8 0) (u 8)) ++ wX0 aC (u 9 0) (u 9)) ++ [arC (u 0 1) (aC 0) 14 (-1)]) ++ [arC (u 0 2) (aC 0) 3 0]) ++ wX7 aC (u 10 0) (u 10)) ++ wX7 aC (u 11 0) (u 11))
set_option maxRecDepth 100000 in
set_option maxHeartbeats 4000000 in
theorem k_X10_init {l : Launch} {D : va_G} {aC : Nat → ClassId} (h0 : Nat) : MetN l D aC (Nat → Nat → Nat) yX10_init cX10_init 1 rm_X10_init rm_X10_init.cells rm_X10_init.slots h0 (.inr (10, bo_X10)) [] (wX10 aC h0) := by
  refine MetN.of (by decide +kernel) rfl (nle rfl) (fun p e s m args below meth c Q A H0 ls X hin hl w hret => ?_)
  have hx := X.1.1
  have hb := X.1.2.1
  replace hl : lv_has ls 1 [(0, .ref h0)] := hl
  have w : WN D A H0 ([(h0, .inr (10, [.null, .null, .null, .null, .null, .null, .null, .null, .null, .null, .null, .null, .null, .int (i2 0), .int (i2 0), .int (i2 0), .int (i2 0), .int (i2 0), .int (i2 0)]))]) H0 _ := w
  refine lv_aload_n hx hb dX10_init_0 rfl (lv_at hl 0 rfl) ?_
  refine nz_obj X obw_X10 hl.1 ⟨nle rfl, nle rfl⟩ dX10_init_1 ?_
  refine lv_aload_n hx hb dX10_init_4 rfl (lv_at hl 0 rfl) ?_
  refine nz_new (C := RX1) (T := TX1) (N := 15) (ty := tyX1) (fs := bo_X1) X w cl_1 in_X1 tyX1_ok bv_X1 nw_X10_7 (nle rfl) (nle rfl) dX10_init_5 (fun q1 H w => ?_)
  refine lv_dup hx hb dX10_init_8 rfl ?_
  refine nz_ci (As := []) X w (k_X1_init q1) lc_X10_9 ⟨rfl, rfl⟩ ⟨nle rfl, nle rfl⟩ ⟨nle rfl, nle rfl⟩ hl.1 rfl (nle rfl) dX10_init_9 (fun u1 H locs w => ?_)
  obtain ⟨r1, er1⟩ : ∃ r : va_W, r = wX1 aC q1 u1 := ⟨_, rfl⟩
  have w : WN D A H0 ((h0, .inr (10, [.null, .null, .null, .null, .null, .null, .null, .null, .null, .null, .null, .null, .null, .int (i2 0), .int (i2 0), .int (i2 0), .int (i2 0), .int (i2 0), .int (i2 0)])) :: (wX1 aC q1 u1)) H _ := w
  rw [← er1] at w
  refine nz_putf (q0 := 0) X hin w rfl cp_X10_10 (nlt_ rfl) rfl rfl dX10_init_12 (fun H locs w => ?_)
  have w : WN D A H0 ((h0, .inr (10, [.ref q1, .null, .null, .null, .null, .null, .null, .null, .null, .null, .null, .null, .null, .int (i2 0), .int (i2 0), .int (i2 0), .int (i2 0), .int (i2 0), .int (i2 0)])) :: r1) H _ := w
  refine lv_aload_n hx hb dX10_init_15 rfl (lv_at hl 0 rfl) ?_
  refine nz_new (C := RX5) (T := TX5) (N := 7) (ty := tyX5) (fs := bo_X5) X w cl_5 in_X5 tyX5_ok bv_X5 nw_X10_16 (nle rfl) (nle rfl) dX10_init_16 (fun q2 H w => ?_)
  refine lv_dup hx hb dX10_init_19 rfl ?_
  refine nz_cin (As := []) X w (k_X5_init q2) X.2.2.2.1 ln_X5 ⟨rfl, rfl⟩ ⟨nle rfl, nle rfl⟩ ⟨nle rfl, nle rfl⟩ hl.1 rfl (nle rfl) dX10_init_20 (fun u2 H locs w => ?_)
  obtain ⟨r2, er2⟩ : ∃ r : va_W, r = r1 ++ wX5 aC q2 u2 := ⟨_, rfl⟩
  have w : WN D A H0 ((h0, .inr (10, [.ref q1, .null, .null, .null, .null, .null, .null, .null, .null, .null, .null, .null, .null, .int (i2 0), .int (i2 0), .int (i2 0), .int (i2 0), .int (i2 0), .int (i2 0)])) :: (r1 ++ wX5 aC q2 u2)) H _ := w
  rw [← er2] at w
  refine nz_putf (q0 := 0) X hin w rfl cp_X10_19 (nlt_ rfl) rfl rfl dX10_init_23 (fun H locs w => ?_)
  have w : WN D A H0 ((h0, .inr (10, [.ref q1, .ref q2, .null, .null, .null, .null, .null, .null, .null, .null, .null, .null, .null, .int (i2 0), .int (i2 0), .int (i2 0), .int (i2 0), .int (i2 0), .int (i2 0)])) :: r2) H _ := w
  refine lv_aload_n hx hb dX10_init_26 rfl (lv_at hl 0 rfl) ?_
  refine nz_new (C := RX9) (T := TX9) (N := 6) (ty := tyX9) (fs := bo_X9) X w cl_9 in_X9 tyX9_ok bv_X9 nw_X10_23 (nle rfl) (nle rfl) dX10_init_27 (fun q3 H w => ?_)
  refine lv_dup hx hb dX10_init_30 rfl ?_
  refine nz_cin (As := []) X w (k_X9_init q3) X.2.2.2.2.1 ln_X9 ⟨rfl, rfl⟩ ⟨nle rfl, nle rfl⟩ ⟨nle rfl, nle rfl⟩ hl.1 rfl (nle rfl) dX10_init_31 (fun u3 H locs w => ?_)
  obtain ⟨r3, er3⟩ : ∃ r : va_W, r = r2 ++ wX9 aC q3 u3 := ⟨_, rfl⟩
  have w : WN D A H0 ((h0, .inr (10, [.ref q1, .ref q2, .null, .null, .null, .null, .null, .null, .null, .null, .null, .null, .null, .int (i2 0), .int (i2 0), .int (i2 0), .int (i2 0), .int (i2 0), .int (i2 0)])) :: (r2 ++ wX9 aC q3 u3)) H _ := w
  rw [← er3] at w
  refine nz_putf (q0 := 0) X hin w rfl cp_X10_26 (nlt_ rfl) rfl rfl dX10_init_34 (fun H locs w => ?_)
  have w : WN D A H0 ((h0, .inr (10, [.ref q1, .ref q2, .ref q3, .null, .null, .null, .null, .null, .null, .null, .null, .null, .null, .int (i2 0), .int (i2 0), .int (i2 0), .int (i2 0), .int (i2 0), .int (i2 0)])) :: r3) H _ := w
  refine lv_aload_n hx hb dX10_init_37 rfl (lv_at hl 0 rfl) ?_
  refine nz_new (C := RX6) (T := TX6) (N := 8) (ty := tyX6) (fs := bo_X6) X w cl_6 in_X6 tyX6_ok bv_X6 nw_X10_30 (nle rfl) (nle rfl) dX10_init_38 (fun q4 H w => ?_)
  refine lv_dup hx hb dX10_init_41 rfl ?_
  refine lv_aload_n hx hb dX10_init_42 rfl (lv_at hl 0 rfl) ?_
  refine nz_get (q0 := 0) X w rfl cg_X10_26 rfl dX10_init_43 ?_
  refine nz_ci (As := [.ref q3]) X w (k_X6_init q4 q3) lc_X10_32 ⟨rfl, rfl⟩ ⟨nle rfl, nle rfl⟩ ⟨nle rfl, nle rfl⟩ hl.1 rfl (nle rfl) dX10_init_46 (fun u4 H locs w => ?_)
  obtain ⟨r4, er4⟩ : ∃ r : va_W, r = r3 ++ wX6 aC q4 q3 u4 := ⟨_, rfl⟩
  have w : WN D A H0 ((h0, .inr (10, [.ref q1, .ref q2, .ref q3, .null, .null, .null, .null, .null, .null, .null, .null, .null, .null, .int (i2 0), .int (i2 0), .int (i2 0), .int (i2 0), .int (i2 0), .int (i2 0)])) :: (r3 ++ wX6 aC q4 q3 u4)) H _ := w
  rw [← er4] at w
  refine nz_putf (q0 := 0) X hin w rfl cp_X10_35 (nlt_ rfl) rfl rfl dX10_init_49 (fun H locs w => ?_)
  have w : WN D A H0 ((h0, .inr (10, [.ref q1, .ref q2, .ref q3, .ref q4, .null, .null, .null, .null, .null, .null, .null, .null, .null, .int (i2 0), .int (i2 0), .int (i2 0), .int (i2 0), .int (i2 0), .int (i2 0)])) :: r4) H _ := w
  refine lv_aload_n hx hb dX10_init_52 rfl (lv_at hl 0 rfl) ?_
  refine nz_new (C := RX4) (T := TX4) (N := 8) (ty := tyX4) (fs := bo_X4) X w cl_4 in_X4 tyX4_ok bv_X4 nw_X10_39 (nle rfl) (nle rfl) dX10_init_53 (fun q5 H w => ?_)
  refine lv_dup hx hb dX10_init_56 rfl ?_
  refine lv_aload_n hx hb dX10_init_57 rfl (lv_at hl 0 rfl) ?_
  refine nz_get (q0 := 0) X w rfl cg_X10_10 rfl dX10_init_58 ?_
  refine lv_aload_n hx hb dX10_init_61 rfl (lv_at hl 0 rfl) ?_
  refine nz_get (q0 := 0) X w rfl cg_X10_19 rfl dX10_init_62 ?_
  refine nz_ci (As := [.ref q1, .ref q2]) X w (k_X4_init q5 q1 q2) lc_X10_41 ⟨rfl, rfl⟩ ⟨nle rfl, nle rfl⟩ ⟨nle rfl, nle rfl⟩ hl.1 rfl (nle rfl) dX10_init_65 (fun u5 H locs w => ?_)
  obtain ⟨r5, er5⟩ : ∃ r : va_W, r = r4 ++ wX4 aC q5 q1 q2 u5 := ⟨_, rfl⟩
  have w : WN D A H0 ((h0, .inr (10, [.ref q1, .ref q2, .ref q3, .ref q4, .null, .null, .null, .null, .null, .null, .null, .null, .null, .int (i2 0), .int (i2 0), .int (i2 0), .int (i2 0), .int (i2 0), .int (i2 0)])) :: (r4 ++ wX4 aC q5 q1 q2 u5)) H _ := w
  rw [← er5] at w
  refine nz_putf (q0 := 0) X hin w rfl cp_X10_44 (nlt_ rfl) rfl rfl dX10_init_68 (fun H locs w => ?_)
  have w : WN D A H0 ((h0, .inr (10, [.ref q1, .ref q2, .ref q3, .ref q4, .ref q5, .null, .null, .null, .null, .null, .null, .null, .null, .int (i2 0), .int (i2 0), .int (i2 0), .int (i2 0), .int (i2 0), .int (i2 0)])) :: r5) H _ := w
  refine lv_aload_n hx hb dX10_init_71 rfl (lv_at hl 0 rfl) ?_
  refine nz_new (C := RX8) (T := TX8) (N := 20) (ty := tyX8) (fs := bo_X8) X w cl_8 in_X8 tyX8_ok bv_X8 nw_X10_48 (nle rfl) (nle rfl) dX10_init_72 (fun q6 H w => ?_)
  refine lv_dup hx hb dX10_init_75 rfl ?_
  refine lv_aload_n hx hb dX10_init_76 rfl (lv_at hl 0 rfl) ?_
  refine nz_get (q0 := 0) X w rfl cg_X10_10 rfl dX10_init_77 ?_
  refine lv_aload_n hx hb dX10_init_80 rfl (lv_at hl 0 rfl) ?_
  refine nz_get (q0 := 0) X w rfl cg_X10_44 rfl dX10_init_81 ?_
  refine nz_ci (As := [.ref q1, .ref q5]) X w (k_X8_init q6 q1 q5) lc_X10_50 ⟨rfl, rfl⟩ ⟨nle rfl, nle rfl⟩ ⟨nle rfl, nle rfl⟩ hl.1 rfl (nle rfl) dX10_init_84 (fun u6 H locs w => ?_)
  obtain ⟨r6, er6⟩ : ∃ r : va_W, r = r5 ++ wX8 aC q6 q1 q5 u6 := ⟨_, rfl⟩
  have w : WN D A H0 ((h0, .inr (10, [.ref q1, .ref q2, .ref q3, .ref q4, .ref q5, .null, .null, .null, .null, .null, .null, .null, .null, .int (i2 0), .int (i2 0), .int (i2 0), .int (i2 0), .int (i2 0), .int (i2 0)])) :: (r5 ++ wX8 aC q6 q1 q5 u6)) H _ := w
  rw [← er6] at w
  refine nz_putf (q0 := 0) X hin w rfl cp_X10_53 (nlt_ rfl) rfl rfl dX10_init_87 (fun H locs w => ?_)
  have w : WN D A H0 ((h0, .inr (10, [.ref q1, .ref q2, .ref q3, .ref q4, .ref q5, .ref q6, .null, .null, .null, .null, .null, .null, .null, .int (i2 0), .int (i2 0), .int (i2 0), .int (i2 0), .int (i2 0), .int (i2 0)])) :: r6) H _ := w
  refine lv_aload_n hx hb dX10_init_90 rfl (lv_at hl 0 rfl) ?_
  refine nz_new (C := RX2) (T := TX2) (N := 7) (ty := tyX2) (fs := bo_X2) X w cl_2 in_X2 tyX2_ok bv_X2 nw_X10_57 (nle rfl) (nle rfl) dX10_init_91 (fun q7 H w => ?_)
  refine lv_dup hx hb dX10_init_94 rfl ?_
  refine lv_aload_n hx hb dX10_init_95 rfl (lv_at hl 0 rfl) ?_
  refine nz_get (q0 := 0) X w rfl cg_X10_10 rfl dX10_init_96 ?_
  refine lv_aload_n hx hb dX10_init_99 rfl (lv_at hl 0 rfl) ?_
  refine nz_get (q0 := 0) X w rfl cg_X10_44 rfl dX10_init_100 ?_
  refine nz_ci (As := [.ref q1, .ref q5]) X w (k_X2_init q7 q1 q5) lc_X10_59 ⟨rfl, rfl⟩ ⟨nle rfl, nle rfl⟩ ⟨nle rfl, nle rfl⟩ hl.1 rfl (nle rfl) dX10_init_103 (fun u7 H locs w => ?_)
  obtain ⟨r7, er7⟩ : ∃ r : va_W, r = r6 ++ wX2 aC q7 q1 q5 u7 := ⟨_, rfl⟩
  have w : WN D A H0 ((h0, .inr (10, [.ref q1, .ref q2, .ref q3, .ref q4, .ref q5, .ref q6, .null, .null, .null, .null, .null, .null, .null, .int (i2 0), .int (i2 0), .int (i2 0), .int (i2 0), .int (i2 0), .int (i2 0)])) :: (r6 ++ wX2 aC q7 q1 q5 u7)) H _ := w
  rw [← er7] at w
  refine nz_putf (q0 := 0) X hin w rfl cp_X10_60 (nlt_ rfl) rfl rfl dX10_init_106 (fun H locs w => ?_)
  have w : WN D A H0 ((h0, .inr (10, [.ref q1, .ref q2, .ref q3, .ref q4, .ref q5, .ref q6, .ref q7, .null, .null, .null, .null, .null, .null, .int (i2 0), .int (i2 0), .int (i2 0), .int (i2 0), .int (i2 0), .int (i2 0)])) :: r7) H _ := w
  refine lv_aload_n hx hb dX10_init_109 rfl (lv_at hl 0 rfl) ?_
  refine nz_new (C := RX3) (T := TX3) (N := 7) (ty := tyX3) (fs := bo_X3) X w cl_3 in_X3 tyX3_ok bv_X3 nw_X10_64 (nle rfl) (nle rfl) dX10_init_110 (fun q8 H w => ?_)
  refine lv_dup hx hb dX10_init_113 rfl ?_
  refine nz_cin (As := []) X w (k_X3_init q8) X.2.2.2.2.2.1 ln_X3 ⟨rfl, rfl⟩ ⟨nle rfl, nle rfl⟩ ⟨nle rfl, nle rfl⟩ hl.1 rfl (nle rfl) dX10_init_114 (fun u8 H locs w => ?_)
  obtain ⟨r8, er8⟩ : ∃ r : va_W, r = r7 ++ wX3 aC q8 u8 := ⟨_, rfl⟩
  have w : WN D A H0 ((h0, .inr (10, [.ref q1, .ref q2, .ref q3, .ref q4, .ref q5, .ref q6, .ref q7, .null, .null, .null, .null, .null, .null, .int (i2 0), .int (i2 0), .int (i2 0), .int (i2 0), .int (i2 0), .int (i2 0)])) :: (r7 ++ wX3 aC q8 u8)) H _ := w
  rw [← er8] at w
  refine nz_putf (q0 := 0) X hin w rfl cp_X10_67 (nlt_ rfl) rfl rfl dX10_init_117 (fun H locs w => ?_)
  have w : WN D A H0 ((h0, .inr (10, [.ref q1, .ref q2, .ref q3, .ref q4, .ref q5, .ref q6, .ref q7, .ref q8, .null, .null, .null, .null, .null, .int (i2 0), .int (i2 0), .int (i2 0), .int (i2 0), .int (i2 0), .int (i2 0)])) :: r8) H _ := w
  refine lv_aload_n hx hb dX10_init_120 rfl (lv_at hl 0 rfl) ?_
  refine nz_new (C := RX0) (T := TX0) (N := 5) (ty := tyX0) (fs := bo_X0) X w cl_0 in_X0 tyX0_ok bv_X0 nw_X10_71 (nle rfl) (nle rfl) dX10_init_121 (fun q9 H w => ?_)
  refine lv_dup hx hb dX10_init_124 rfl ?_
  refine nz_ci (As := []) X w (k_X0_init q9) lc_X10_73 ⟨rfl, rfl⟩ ⟨nle rfl, nle rfl⟩ ⟨nle rfl, nle rfl⟩ hl.1 rfl (nle rfl) dX10_init_125 (fun u9 H locs w => ?_)
  obtain ⟨r9, er9⟩ : ∃ r : va_W, r = r8 ++ wX0 aC q9 u9 := ⟨_, rfl⟩
  have w : WN D A H0 ((h0, .inr (10, [.ref q1, .ref q2, .ref q3, .ref q4, .ref q5, .ref q6, .ref q7, .ref q8, .null, .null, .null, .null, .null, .int (i2 0), .int (i2 0), .int (i2 0), .int (i2 0), .int (i2 0), .int (i2 0)])) :: (r8 ++ wX0 aC q9 u9)) H _ := w
  rw [← er9] at w
  refine nz_putf (q0 := 0) X hin w rfl cp_X10_74 (nlt_ rfl) rfl rfl dX10_init_128 (fun H locs w => ?_)
  have w : WN D A H0 ((h0, .inr (10, [.ref q1, .ref q2, .ref q3, .ref q4, .ref q5, .ref q6, .ref q7, .ref q8, .ref q9, .null, .null, .null, .null, .int (i2 0), .int (i2 0), .int (i2 0), .int (i2 0), .int (i2 0), .int (i2 0)])) :: r9) H _ := w
  refine lv_aload_n hx hb dX10_init_131 rfl (lv_at hl 0 rfl) ?_
  refine nz_bipush X dX10_init_132 (by decide) ?_
  refine nz_new_int (n := 14) X w acw_int (by decide) (nle rfl) (nle rfl) dX10_init_134 (fun g1 H w => ?_)
  have w : WN D A H0 (((h0, .inr (10, [.ref q1, .ref q2, .ref q3, .ref q4, .ref q5, .ref q6, .ref q7, .ref q8, .ref q9, .null, .null, .null, .null, .int (i2 0), .int (i2 0), .int (i2 0), .int (i2 0), .int (i2 0), .int (i2 0)])) :: r9) ++ [arC g1 (aC 0) 14 0]) H _ := w
  refine nz_putf (q0 := 0) X hin w rfl cp_X10_78 (nlt_ rfl) rfl rfl dX10_init_136 (fun H locs w => ?_)
  have w : WN D A H0 (((h0, .inr (10, [.ref q1, .ref q2, .ref q3, .ref q4, .ref q5, .ref q6, .ref q7, .ref q8, .ref q9, .ref g1, .null, .null, .null, .int (i2 0), .int (i2 0), .int (i2 0), .int (i2 0), .int (i2 0), .int (i2 0)])) :: r9) ++ [arC g1 (aC 0) 14 0]) H _ := w
  refine lv_aload_n hx hb dX10_init_139 rfl (lv_at hl 0 rfl) ?_
  refine nz_get (q0 := 0) X w rfl cg_X10_78 rfl dX10_init_140 ?_
  refine nz_iconst X dX10_init_143 ?_
  refine nz_filll (n := 14) (v0 := 0) (v := (-1)) X w (by decide) (inL rfl) lf_X10_82 ⟨nle rfl, nle rfl⟩ ⟨nle rfl, nle rfl⟩ hl.1 (nle rfl) dX10_init_144 (fun H locs w => ?_)
  obtain ⟨r10, er10⟩ : ∃ r : va_W, r = r9 ++ [arC g1 (aC 0) 14 (-1)] := ⟨_, rfl⟩
  have w : WN D A H0 ((h0, .inr (10, [.ref q1, .ref q2, .ref q3, .ref q4, .ref q5, .ref q6, .ref q7, .ref q8, .ref q9, .ref g1, .null, .null, .null, .int (i2 0), .int (i2 0), .int (i2 0), .int (i2 0), .int (i2 0), .int (i2 0)])) :: (r9 ++ [arC g1 (aC 0) 14 (-1)])) H _ := w
  rw [← er10] at w
  refine lv_aload_n hx hb dX10_init_147 rfl (lv_at hl 0 rfl) ?_
  refine nz_iconst X dX10_init_148 ?_
  refine nz_new_int (n := 3) X w acw_int (by decide) (nle rfl) (nle rfl) dX10_init_149 (fun g2 H w => ?_)
  have w : WN D A H0 (((h0, .inr (10, [.ref q1, .ref q2, .ref q3, .ref q4, .ref q5, .ref q6, .ref q7, .ref q8, .ref q9, .ref g1, .null, .null, .null, .int (i2 0), .int (i2 0), .int (i2 0), .int (i2 0), .int (i2 0), .int (i2 0)])) :: r10) ++ [arC g2 (aC 0) 3 0]) H _ := w
  refine nz_putf (q0 := 0) X hin w rfl cp_X10_88 (nlt_ rfl) rfl rfl dX10_init_151 (fun H locs w => ?_)
  have w : WN D A H0 (((h0, .inr (10, [.ref q1, .ref q2, .ref q3, .ref q4, .ref q5, .ref q6, .ref q7, .ref q8, .ref q9, .ref g1, .ref g2, .null, .null, .int (i2 0), .int (i2 0), .int (i2 0), .int (i2 0), .int (i2 0), .int (i2 0)])) :: r10) ++ [arC g2 (aC 0) 3 0]) H _ := w
  obtain ⟨r11, er11⟩ : ∃ r : va_W, r = r10 ++ [arC g2 (aC 0) 3 0] := ⟨_, rfl⟩
  have w : WN D A H0 ((h0, .inr (10, [.ref q1, .ref q2, .ref q3, .ref q4, .ref q5, .ref q6, .ref q7, .ref q8, .ref q9, .ref g1, .ref g2, .null, .null, .int (i2 0), .int (i2 0), .int (i2 0), .int (i2 0), .int (i2 0), .int (i2 0)])) :: (r10 ++ [arC g2 (aC 0) 3 0])) H _ := w
  rw [← er11] at w
  refine lv_aload_n hx hb dX10_init_154 rfl (lv_at hl 0 rfl) ?_
  refine nz_new (C := RX7) (T := TX7) (N := 9) (ty := tyX7) (fs := bo_X7) X w cl_7 in_X7 tyX7_ok bv_X7 nw_X10_91 (nle rfl) (nle rfl) dX10_init_155 (fun q10 H w => ?_)
  refine lv_dup hx hb dX10_init_158 rfl ?_
  refine nz_cin (As := []) X w (k_X7_init q10) X.2.2.2.2.2.2 ln_X7 ⟨rfl, rfl⟩ ⟨nle rfl, nle rfl⟩ ⟨nle rfl, nle rfl⟩ hl.1 rfl (nle rfl) dX10_init_159 (fun u10 H locs w => ?_)
  obtain ⟨r12, er12⟩ : ∃ r : va_W, r = r11 ++ wX7 aC q10 u10 := ⟨_, rfl⟩
  have w : WN D A H0 ((h0, .inr (10, [.ref q1, .ref q2, .ref q3, .ref q4, .ref q5, .ref q6, .ref q7, .ref q8, .ref q9, .ref g1, .ref g2, .null, .null, .int (i2 0), .int (i2 0), .int (i2 0), .int (i2 0), .int (i2 0), .int (i2 0)])) :: (r11 ++ wX7 aC q10 u10)) H _ := w
  rw [← er12] at w
  refine nz_put (q0 := 0) X w rfl cp_X10_94 (nlt_ rfl) rfl rfl dX10_init_162 (fun H locs w => ?_)
  have w : WN D A H0 ((h0, .inr (10, [.ref q1, .ref q2, .ref q3, .ref q4, .ref q5, .ref q6, .ref q7, .ref q8, .ref q9, .ref g1, .ref g2, .ref q10, .null, .int (i2 0), .int (i2 0), .int (i2 0), .int (i2 0), .int (i2 0), .int (i2 0)])) :: r12) H _ := w
  refine lv_aload_n hx hb dX10_init_165 rfl (lv_at hl 0 rfl) ?_
  refine nz_new (C := RX7) (T := TX7) (N := 9) (ty := tyX7) (fs := bo_X7) X w cl_7 in_X7 tyX7_ok bv_X7 nw_X10_91 (nle rfl) (nle rfl) dX10_init_166 (fun q11 H w => ?_)
  refine lv_dup hx hb dX10_init_169 rfl ?_
  refine nz_cin (As := []) X w (k_X7_init q11) X.2.2.2.2.2.2 ln_X7 ⟨rfl, rfl⟩ ⟨nle rfl, nle rfl⟩ ⟨nle rfl, nle rfl⟩ hl.1 rfl (nle rfl) dX10_init_170 (fun u11 H locs w => ?_)
  obtain ⟨r13, er13⟩ : ∃ r : va_W, r = r12 ++ wX7 aC q11 u11 := ⟨_, rfl⟩
  have w : WN D A H0 ((h0, .inr (10, [.ref q1, .ref q2, .ref q3, .ref q4, .ref q5, .ref q6, .ref q7, .ref q8, .ref q9, .ref g1, .ref g2, .ref q10, .null, .int (i2 0), .int (i2 0), .int (i2 0), .int (i2 0), .int (i2 0), .int (i2 0)])) :: (r12 ++ wX7 aC q11 u11)) H _ := w
  rw [← er13] at w
  refine nz_put (q0 := 0) X w rfl cp_X10_98 (nlt_ rfl) rfl rfl dX10_init_173 (fun H locs w => ?_)
  have w : WN D A H0 ((h0, .inr (10, [.ref q1, .ref q2, .ref q3, .ref q4, .ref q5, .ref q6, .ref q7, .ref q8, .ref q9, .ref g1, .ref g2, .ref q10, .ref q11, .int (i2 0), .int (i2 0), .int (i2 0), .int (i2 0), .int (i2 0), .int (i2 0)])) :: r13) H _ := w
  refine lv_aload_n hx hb dX10_init_176 rfl (lv_at hl 0 rfl) ?_
  refine nz_iconst X dX10_init_177 ?_
  refine nz_put (q0 := 0) X w rfl cp_X10_101 (nlt_ rfl) rfl rfl dX10_init_178 (fun H locs w => ?_)
  have w : WN D A H0 ((h0, .inr (10, [.ref q1, .ref q2, .ref q3, .ref q4, .ref q5, .ref q6, .ref q7, .ref q8, .ref q9, .ref g1, .ref g2, .ref q10, .ref q11, .int (i2 0), .int (i2 0), .int (i2 (-1)), .int (i2 0), .int (i2 0), .int (i2 0)])) :: r13) H _ := w
  subst er13 er12 er11 er10 er9 er8 er7 er6 er5 er4 er3 er2 er1
  exact hret (fun c => match c with | 0 => fun k => [h0, g1, g2].getD k 0 | 1 => (fun k => match k with | 0 => q1 | k + 1 => u1 (k + 1)) | 2 => (fun k => match k with | 0 => q2 | k + 1 => u2 (k + 1)) | 3 => (fun k => match k with | 0 => q3 | k + 1 => u3 (k + 1)) | 4 => (fun k => match k with | 0 => q4 | k + 1 => u4 (k + 1)) | 5 => (fun k => match k with | 0 => q5 | k + 1 => u5 (k + 1)) | 6 => (fun k => match k with | 0 => q6 | k + 1 => u6 (k + 1)) | 7 => (fun k => match k with | 0 => q7 | k + 1 => u7 (k + 1)) | 8 => (fun k => match k with | 0 => q8 | k + 1 => u8 (k + 1)) | 9 => (fun k => match k with | 0 => q9 | k + 1 => u9 (k + 1)) | 10 => (fun k => match k with | 0 => q10 | k + 1 => u10 (k + 1)) | 11 => (fun k => match k with | 0 => q11 | k + 1 => u11 (k + 1)) | _ => fun _ => 0) H _ 181 ls w dX10_init_181
def bo_X11 : List Value := [.int (i2 0), .int (i2 0), .null, .null, .null, .null, .null, .null, .null, .null, .null, .null, .int (i2 0), .null, .int (i2 0), .int (i2 0), .null, .null, .null, .null, .null, .int (i2 0), .int (i2 0), .null, .null, .null, .null, .null, .null, .null, .null, .null, .int (i2 0), .int (i2 0), .int (i2 0), .int (i2 0), .int (i2 0), .int (i2 0), .int (i2 0), .null, .null, .null, .null, .int (i2 0), .int (i2 0), .int (i2 0), .int (i2 0), .null, .int (i2 0), .null, .int (i2 0), .null, .null, .null, .null, .int (i2 0), .int (i2 0), .null, .null, .null, .null]
theorem bv_X11 : ∀ j, j < 61 → defaultValue (tyX11 j) = vp_V bo_X11 j := fun j hj => match j, hj with
  | 0, _ => rfl
  | 1, _ => rfl
  | 2, _ => rfl
  | 3, _ => rfl
  | 4, _ => rfl
  | 5, _ => rfl
  | 6, _ => rfl
  | 7, _ => rfl
  | 8, _ => rfl
  | 9, _ => rfl
  | 10, _ => rfl
  | 11, _ => rfl
  | 12, _ => rfl
  | 13, _ => rfl
  | 14, _ => rfl
  | 15, _ => rfl
  | 16, _ => rfl
  | 17, _ => rfl
  | 18, _ => rfl
  | 19, _ => rfl
  | 20, _ => rfl
  | 21, _ => rfl
  | 22, _ => rfl
  | 23, _ => rfl
  | 24, _ => rfl
  | 25, _ => rfl
  | 26, _ => rfl
  | 27, _ => rfl
  | 28, _ => rfl
  | 29, _ => rfl
  | 30, _ => rfl
  | 31, _ => rfl
  | 32, _ => rfl
  | 33, _ => rfl
  | 34, _ => rfl
  | 35, _ => rfl
  | 36, _ => rfl
  | 37, _ => rfl
  | 38, _ => rfl
  | 39, _ => rfl
  | 40, _ => rfl
  | 41, _ => rfl
  | 42, _ => rfl
  | 43, _ => rfl
  | 44, _ => rfl
  | 45, _ => rfl
  | 46, _ => rfl
  | 47, _ => rfl
  | 48, _ => rfl
  | 49, _ => rfl
  | 50, _ => rfl
  | 51, _ => rfl
  | 52, _ => rfl
  | 53, _ => rfl
  | 54, _ => rfl
  | 55, _ => rfl
  | 56, _ => rfl
  | 57, _ => rfl
  | 58, _ => rfl
  | 59, _ => rfl
  | 60, _ => rfl
  | k + 61, h => absurd h (by omega)
theorem obw_X11 : Cond.methodLink RX11 1 objectInit ∈ BW ∧ Cond.instanceMethod objectInit ∈ BW ∧ Cond.code objectInit ⟨#[0xb1]⟩ 1 none ∈ BW := ⟨(BW_in (List.mem_of_getElem? (i := 1375) (by decide +kernel)) rfl), (BW_in (List.mem_of_getElem? (i := 128) (by decide +kernel)) rfl), (BW_in (List.mem_of_getElem? (i := 129) (by decide +kernel)) rfl)⟩
theorem cp_X11_7 : FldF RX11 7 11 2 (.array .int) := ⟨RX11, TX11, 61, tyX11, rfl, by decide, rfl, rfl, in_X11, (BW_in (List.mem_of_getElem? (i := 1378) (by decide +kernel)) rfl), tyX11_ok, nmX11, rfl, by decide +kernel⟩
theorem cp_X11_13 : FldF RX11 13 11 3 (.array .int) := ⟨RX11, TX11, 61, tyX11, rfl, by decide, rfl, rfl, in_X11, (BW_in (List.mem_of_getElem? (i := 1379) (by decide +kernel)) rfl), tyX11_ok, nmX11, rfl, by decide +kernel⟩
theorem cp_X11_16 : FldF RX11 16 11 4 (.array .int) := ⟨RX11, TX11, 61, tyX11, rfl, by decide, rfl, rfl, in_X11, (BW_in (List.mem_of_getElem? (i := 1380) (by decide +kernel)) rfl), tyX11_ok, nmX11, rfl, by decide +kernel⟩
theorem cp_X11_19 : FldF RX11 19 11 5 (.array .int) := ⟨RX11, TX11, 61, tyX11, rfl, by decide, rfl, rfl, in_X11, (BW_in (List.mem_of_getElem? (i := 1381) (by decide +kernel)) rfl), tyX11_ok, nmX11, rfl, by decide +kernel⟩
theorem cp_X11_22 : FldF RX11 22 11 6 (.array .int) := ⟨RX11, TX11, 61, tyX11, rfl, by decide, rfl, rfl, in_X11, (BW_in (List.mem_of_getElem? (i := 1382) (by decide +kernel)) rfl), tyX11_ok, nmX11, rfl, by decide +kernel⟩
theorem cp_X11_25 : FldF RX11 25 11 7 (.array .int) := ⟨RX11, TX11, 61, tyX11, rfl, by decide, rfl, rfl, in_X11, (BW_in (List.mem_of_getElem? (i := 1383) (by decide +kernel)) rfl), tyX11_ok, nmX11, rfl, by decide +kernel⟩
theorem cp_X11_28 : FldF RX11 28 11 8 (.array .int) := ⟨RX11, TX11, 61, tyX11, rfl, by decide, rfl, rfl, in_X11, (BW_in (List.mem_of_getElem? (i := 1384) (by decide +kernel)) rfl), tyX11_ok, nmX11, rfl, by decide +kernel⟩
theorem cp_X11_31 : FldF RX11 31 11 9 (.array .boolean) := ⟨RX11, TX11, 61, tyX11, rfl, by decide, rfl, rfl, in_X11, (BW_in (List.mem_of_getElem? (i := 1385) (by decide +kernel)) rfl), tyX11_ok, nmX11, rfl, by decide +kernel⟩
theorem cp_X11_35 : FldF RX11 35 11 10 (.array .boolean) := ⟨RX11, TX11, 61, tyX11, rfl, by decide, rfl, rfl, in_X11, (BW_in (List.mem_of_getElem? (i := 1386) (by decide +kernel)) rfl), tyX11_ok, nmX11, rfl, by decide +kernel⟩
theorem cp_X11_38 : FldF RX11 38 11 11 (.array .boolean) := ⟨RX11, TX11, 61, tyX11, rfl, by decide, rfl, rfl, in_X11, (BW_in (List.mem_of_getElem? (i := 1387) (by decide +kernel)) rfl), tyX11_ok, nmX11, rfl, by decide +kernel⟩
theorem cp_X11_41 : FldP RX11 41 11 12 .int := ⟨RX11, TX11, 61, tyX11, rfl, by decide, rfl, in_X11, (BW_in (List.mem_of_getElem? (i := 1388) (by decide +kernel)) rfl), tyX11_ok, nmX11, rfl, by decide +kernel⟩
theorem cp_X11_45 : FldF RX11 45 11 13 (.array .int) := ⟨RX11, TX11, 61, tyX11, rfl, by decide, rfl, rfl, in_X11, (BW_in (List.mem_of_getElem? (i := 1389) (by decide +kernel)) rfl), tyX11_ok, nmX11, rfl, by decide +kernel⟩
theorem cp_X11_48 : FldF RX11 48 11 16 (.array .int) := ⟨RX11, TX11, 61, tyX11, rfl, by decide, rfl, rfl, in_X11, (BW_in (List.mem_of_getElem? (i := 1392) (by decide +kernel)) rfl), tyX11_ok, nmX11, rfl, by decide +kernel⟩
theorem cp_X11_51 : FldF RX11 51 11 17 (.array .int) := ⟨RX11, TX11, 61, tyX11, rfl, by decide, rfl, rfl, in_X11, (BW_in (List.mem_of_getElem? (i := 1393) (by decide +kernel)) rfl), tyX11_ok, nmX11, rfl, by decide +kernel⟩
theorem cp_X11_54 : FldF RX11 54 11 18 (.array .int) := ⟨RX11, TX11, 61, tyX11, rfl, by decide, rfl, rfl, in_X11, (BW_in (List.mem_of_getElem? (i := 1394) (by decide +kernel)) rfl), tyX11_ok, nmX11, rfl, by decide +kernel⟩
theorem cp_X11_57 : FldF RX11 57 11 19 (.array .int) := ⟨RX11, TX11, 61, tyX11, rfl, by decide, rfl, rfl, in_X11, (BW_in (List.mem_of_getElem? (i := 1395) (by decide +kernel)) rfl), tyX11_ok, nmX11, rfl, by decide +kernel⟩
theorem cp_X11_60 : FldF RX11 60 11 20 (.array .int) := ⟨RX11, TX11, 61, tyX11, rfl, by decide, rfl, rfl, in_X11, (BW_in (List.mem_of_getElem? (i := 1396) (by decide +kernel)) rfl), tyX11_ok, nmX11, rfl, by decide +kernel⟩
theorem cp_X11_63 : FldF RX11 63 11 23 (.array .int) := ⟨RX11, TX11, 61, tyX11, rfl, by decide, rfl, rfl, in_X11, (BW_in (List.mem_of_getElem? (i := 1399) (by decide +kernel)) rfl), tyX11_ok, nmX11, rfl, by decide +kernel⟩
theorem cp_X11_66 : FldF RX11 66 11 24 (.array .int) := ⟨RX11, TX11, 61, tyX11, rfl, by decide, rfl, rfl, in_X11, (BW_in (List.mem_of_getElem? (i := 1400) (by decide +kernel)) rfl), tyX11_ok, nmX11, rfl, by decide +kernel⟩
theorem cp_X11_69 : FldF RX11 69 11 25 (.array .int) := ⟨RX11, TX11, 61, tyX11, rfl, by decide, rfl, rfl, in_X11, (BW_in (List.mem_of_getElem? (i := 1401) (by decide +kernel)) rfl), tyX11_ok, nmX11, rfl, by decide +kernel⟩
theorem cp_X11_72 : FldF RX11 72 11 26 (.array .int) := ⟨RX11, TX11, 61, tyX11, rfl, by decide, rfl, rfl, in_X11, (BW_in (List.mem_of_getElem? (i := 1402) (by decide +kernel)) rfl), tyX11_ok, nmX11, rfl, by decide +kernel⟩
theorem cp_X11_75 : FldF RX11 75 11 27 (.array .boolean) := ⟨RX11, TX11, 61, tyX11, rfl, by decide, rfl, rfl, in_X11, (BW_in (List.mem_of_getElem? (i := 1403) (by decide +kernel)) rfl), tyX11_ok, nmX11, rfl, by decide +kernel⟩
theorem cp_X11_78 : FldF RX11 78 11 28 (.array .int) := ⟨RX11, TX11, 61, tyX11, rfl, by decide, rfl, rfl, in_X11, (BW_in (List.mem_of_getElem? (i := 1404) (by decide +kernel)) rfl), tyX11_ok, nmX11, rfl, by decide +kernel⟩
theorem cp_X11_81 : FldF RX11 81 11 29 (.array .int) := ⟨RX11, TX11, 61, tyX11, rfl, by decide, rfl, rfl, in_X11, (BW_in (List.mem_of_getElem? (i := 1405) (by decide +kernel)) rfl), tyX11_ok, nmX11, rfl, by decide +kernel⟩
theorem cp_X11_84 : FldF RX11 84 11 30 (.array .int) := ⟨RX11, TX11, 61, tyX11, rfl, by decide, rfl, rfl, in_X11, (BW_in (List.mem_of_getElem? (i := 1406) (by decide +kernel)) rfl), tyX11_ok, nmX11, rfl, by decide +kernel⟩
theorem acw_byte : Cond.arrayClass .byte ∈ BW := (BW_in (List.mem_of_getElem? (i := 824) (by decide +kernel)) rfl)
theorem cp_X11_87 : FldF RX11 87 11 31 (.array .byte) := ⟨RX11, TX11, 61, tyX11, rfl, by decide, rfl, rfl, in_X11, (BW_in (List.mem_of_getElem? (i := 1407) (by decide +kernel)) rfl), tyX11_ok, nmX11, rfl, by decide +kernel⟩
theorem cp_X11_91 : FldP RX11 91 11 34 .int := ⟨RX11, TX11, 61, tyX11, rfl, by decide, rfl, in_X11, (BW_in (List.mem_of_getElem? (i := 1410) (by decide +kernel)) rfl), tyX11_ok, nmX11, rfl, by decide +kernel⟩
theorem cp_X11_94 : FldF RX11 94 11 39 (.array .int) := ⟨RX11, TX11, 61, tyX11, rfl, by decide, rfl, rfl, in_X11, (BW_in (List.mem_of_getElem? (i := 1415) (by decide +kernel)) rfl), tyX11_ok, nmX11, rfl, by decide +kernel⟩
theorem cp_X11_97 : FldF RX11 97 11 40 (.array .boolean) := ⟨RX11, TX11, 61, tyX11, rfl, by decide, rfl, rfl, in_X11, (BW_in (List.mem_of_getElem? (i := 1416) (by decide +kernel)) rfl), tyX11_ok, nmX11, rfl, by decide +kernel⟩
theorem cp_X11_100 : FldF RX11 100 11 41 (.array .int) := ⟨RX11, TX11, 61, tyX11, rfl, by decide, rfl, rfl, in_X11, (BW_in (List.mem_of_getElem? (i := 1417) (by decide +kernel)) rfl), tyX11_ok, nmX11, rfl, by decide +kernel⟩
theorem cp_X11_103 : FldF RX11 103 11 42 (.array .int) := ⟨RX11, TX11, 61, tyX11, rfl, by decide, rfl, rfl, in_X11, (BW_in (List.mem_of_getElem? (i := 1418) (by decide +kernel)) rfl), tyX11_ok, nmX11, rfl, by decide +kernel⟩
theorem cp_X11_106 : FldF RX11 106 11 47 (.array .int) := ⟨RX11, TX11, 61, tyX11, rfl, by decide, rfl, rfl, in_X11, (BW_in (List.mem_of_getElem? (i := 1423) (by decide +kernel)) rfl), tyX11_ok, nmX11, rfl, by decide +kernel⟩
theorem cp_X11_109 : FldP RX11 109 11 48 .int := ⟨RX11, TX11, 61, tyX11, rfl, by decide, rfl, in_X11, (BW_in (List.mem_of_getElem? (i := 1424) (by decide +kernel)) rfl), tyX11_ok, nmX11, rfl, by decide +kernel⟩
theorem cp_X11_112 : FldF RX11 112 11 49 (.array .boolean) := ⟨RX11, TX11, 61, tyX11, rfl, by decide, rfl, rfl, in_X11, (BW_in (List.mem_of_getElem? (i := 1425) (by decide +kernel)) rfl), tyX11_ok, nmX11, rfl, by decide +kernel⟩
theorem cp_X11_115 : FldF RX11 115 11 51 (.array .int) := ⟨RX11, TX11, 61, tyX11, rfl, by decide, rfl, rfl, in_X11, (BW_in (List.mem_of_getElem? (i := 1427) (by decide +kernel)) rfl), tyX11_ok, nmX11, rfl, by decide +kernel⟩
theorem cp_X11_118 : FldF RX11 118 11 52 (.array .int) := ⟨RX11, TX11, 61, tyX11, rfl, by decide, rfl, rfl, in_X11, (BW_in (List.mem_of_getElem? (i := 1428) (by decide +kernel)) rfl), tyX11_ok, nmX11, rfl, by decide +kernel⟩
theorem cp_X11_121 : FldF RX11 121 11 53 (.array .int) := ⟨RX11, TX11, 61, tyX11, rfl, by decide, rfl, rfl, in_X11, (BW_in (List.mem_of_getElem? (i := 1429) (by decide +kernel)) rfl), tyX11_ok, nmX11, rfl, by decide +kernel⟩
theorem cp_X11_124 : FldF RX11 124 11 54 (.array .int) := ⟨RX11, TX11, 61, tyX11, rfl, by decide, rfl, rfl, in_X11, (BW_in (List.mem_of_getElem? (i := 1430) (by decide +kernel)) rfl), tyX11_ok, nmX11, rfl, by decide +kernel⟩
theorem cp_X11_127 : FldF RX11 127 11 57 (.array .int) := ⟨RX11, TX11, 61, tyX11, rfl, by decide, rfl, rfl, in_X11, (BW_in (List.mem_of_getElem? (i := 1433) (by decide +kernel)) rfl), tyX11_ok, nmX11, rfl, by decide +kernel⟩
theorem cp_X11_130 : FldF RX11 130 11 58 (.array .int) := ⟨RX11, TX11, 61, tyX11, rfl, by decide, rfl, rfl, in_X11, (BW_in (List.mem_of_getElem? (i := 1434) (by decide +kernel)) rfl), tyX11_ok, nmX11, rfl, by decide +kernel⟩
theorem cp_X11_133 : FldF RX11 133 11 59 (.array .int) := ⟨RX11, TX11, 61, tyX11, rfl, by decide, rfl, rfl, in_X11, (BW_in (List.mem_of_getElem? (i := 1435) (by decide +kernel)) rfl), tyX11_ok, nmX11, rfl, by decide +kernel⟩
theorem cp_X11_136 : FldF RX11 136 11 60 (.array .int) := ⟨RX11, TX11, 61, tyX11, rfl, by decide, rfl, rfl, in_X11, (BW_in (List.mem_of_getElem? (i := 1436) (by decide +kernel)) rfl), tyX11_ok, nmX11, rfl, by decide +kernel⟩
def rm_X11_init : Room := { frames := 1, cells := 39, slots := 5685, locals := 60 }
def wM (aC : Nat → ClassId) (h0 : Nat) (u : Nat → Nat) (f1 f2 f3 f4 f5 : Nat → Int32) : va_W := [(h0, .inr (11, [.int (i2 0), .int (i2 0), .ref (u 1), .ref (u 2), .ref (u 3), .ref (u 4), .ref (u 5), .ref (u 6), .ref (u 7), .ref (u 8), .ref (u 9), .ref (u 10), .int (i2 2), .ref (u 11), .int (i2 0), .int (i2 0), .ref (u 12), .ref (u 13), .ref (u 14), .ref (u 15), .ref (u 16), .int (i2 0), .int (i2 0), .ref (u 17), .ref (u 18), .ref (u 19), .ref (u 20), .ref (u 21), .ref (u 22), .ref (u 23), .ref (u 24), .ref (u 25), .int (i2 0), .int (i2 0), .int (i2 (-1)), .int (i2 0), .int (i2 0), .int (i2 0), .int (i2 0), .ref (u 26), .ref (u 27), .ref (u 28), .ref (u 29), .int (i2 0), .int (i2 0), .int (i2 0), .int (i2 0), .ref (u 30), .int (i2 (-1)), .ref (u 31), .int (i2 0), .ref (u 32), .ref (u 33), .ref (u 34), .ref (u 35), .int (i2 0), .int (i2 0), .ref (u 36), .ref (u 37), .ref (u 38), .ref (u 39)])), arC (u 1) (aC 0) 14 0, arC (u 2) (aC 0) 14 0, arC (u 3) (aC 0) 14 0, arC (u 4) (aC 0) 14 0, arC (u 5) (aC 0) 14 0, ((u 6), .inl (aC 0, (42, .inl f1))), arC (u 7) (aC 0) 196 0, arC (u 8) (aC 1) 196 0, arC (u 9) (aC 1) 196 0, arC (u 10) (aC 1) 42 0, arC (u 11) (aC 0) 3 14, arC (u 12) (aC 0) 300 0, arC (u 13) (aC 0) 300 0, arC (u 14) (aC 0) 300 0, arC (u 15) (aC 0) 300 0, arC (u 16) (aC 0) 300 0, arC (u 17) (aC 0) 32 0, arC (u 18) (aC 0) 32 0, arC (u 19) (aC 0) 32 0, arC (u 20) (aC 0) 64 0, arC (u 21) (aC 1) 256 0, arC (u 22) (aC 0) 256 0, arC (u 23) (aC 0) 256 0, arC (u 24) (aC 0) 256 0, arC (u 25) (aC 3) 400 0, arC (u 26) (aC 0) 98 0, arC (u 27) (aC 1) 448 0, arC (u 28) (aC 0) 14 0, arC (u 29) (aC 0) 14 0, ((u 30), .inl (aC 0, (14, .inl f2))), arC (u 31) (aC 1) 14 0, arC (u 32) (aC 0) 6 0, arC (u 33) (aC 0) 6 0, ((u 34), .inl (aC 0, (14, .inl f4))), ((u 35), .inl (aC 0, (14, .inl f5))), arC (u 36) (aC 0) 400 0, arC (u 37) (aC 0) 400 0, arC (u 38) (aC 0) 400 0, ((u 39), .inl (aC 0, (14, .inl f3)))]
def wX11 (aC : Nat → ClassId) (h0 : Nat) (u : Nat → Nat) : va_W := wM aC h0 u (fun _ => i2 (-1)) (fun _ => i2 (-1)) (fun _ => i2 (-1)) (fun _ => i2 (-1)) (fun _ => i2 (-1))
theorem cg_X11_25 : FldG RX11 25 11 7 := ⟨RX11, TX11, 61, rfl, by decide, rfl, in_X11, (BW_in (List.mem_of_getElem? (i := 1383) (by decide +kernel)) rfl)⟩
theorem cg_X11_106 : FldG RX11 106 11 47 := ⟨RX11, TX11, 61, rfl, by decide, rfl, in_X11, (BW_in (List.mem_of_getElem? (i := 1423) (by decide +kernel)) rfl)⟩
theorem cg_X11_136 : FldG RX11 136 11 60 := ⟨RX11, TX11, 61, rfl, by decide, rfl, in_X11, (BW_in (List.mem_of_getElem? (i := 1436) (by decide +kernel)) rfl)⟩
theorem cg_X11_121 : FldG RX11 121 11 53 := ⟨RX11, TX11, 61, rfl, by decide, rfl, in_X11, (BW_in (List.mem_of_getElem? (i := 1429) (by decide +kernel)) rfl)⟩
theorem cg_X11_124 : FldG RX11 124 11 54 := ⟨RX11, TX11, 61, rfl, by decide, rfl, in_X11, (BW_in (List.mem_of_getElem? (i := 1430) (by decide +kernel)) rfl)⟩
section MLOOPS
variable {p : Program} {l : Launch} {e : Env} {R : Room} {s : State} {m : MethodId} {args : Array Value} {below : List Frame} {meth : Method} {c : Code} {cells slots : Nat} {Q : State → Prop}
variable {D : va_G} {aC : Nat → ClassId} {A : Nat → Prop} {H0 : Heap}
set_option maxRecDepth 100000 in
set_option maxHeartbeats 4000000 in
theorem m_loop1 (X : CN p s m args c cX11_init 2 RX11 D aC A H0) {h0 : Nat} {u : Nat → Nat} {f2 f3 f4 f5 : Nat → Int32} (HE : ∀ (H : Heap) (locs : List Loc) (ls : Array Slot), lv_has ls 2 [(0, .ref h0)] → WN D A H0 (wM aC h0 u (fun _ => i2 (-1)) f2 f3 f4 f5) H locs → W p l e R s m args below meth c H locs cells slots Q (F0 m 383 ls [])) : ∀ (k i : Nat), k + i = 42 → ∀ {H : Heap} {locs : List Loc} {ls : Array Slot}, lv_has ls 2 [(1, .int (i2 (i : Int))), (0, .ref h0)] → WN D A H0 (wM aC h0 u (fun j => if j < i then i2 (-1) else i2 0) f2 f3 f4 f5) H locs → W p l e R s m args below meth c H locs cells slots Q (F0 m 364 ls []) := by
  have hx := X.1.1
  have hb := X.1.2.1
  have hrn : inR 42 := inL rfl
  intro k
  induction k with
  | zero =>
    intro i hi H locs ls hl w
    have hri : inR (i : Int) := ⟨by omega, by omega⟩
    refine lv_iload_n hx hb dX11_init_364 rfl (lv_at hl 0 rfl) ?_
    refine nz_bipush X dX11_init_365 (by decide) ?_
    refine lv_icmp_ge (tgt := 383) hx hb dX11_init_367 (by decide) (fun cd => ?_) (fun cd => ?_)
    · exact HE H locs ls (lv_sub hl [1] rfl) (nz_ext (k0 := 6) (g := fun _ => i2 (-1)) w rfl (fun j hj => if_pos (by omega)))
    · exact absurd ((i2_le hrn hri).mpr (by omega)) cd
  | succ k ih =>
    intro i hi H locs ls hl w
    have hri : inR (i : Int) := ⟨by omega, by omega⟩
    refine lv_iload_n hx hb dX11_init_364 rfl (lv_at hl 0 rfl) ?_
    refine nz_bipush X dX11_init_365 (by decide) ?_
    refine lv_icmp_ge (tgt := 383) hx hb dX11_init_367 (by decide) (fun cd => ?_) (fun cd => ?_)
    · exact absurd ((i2_le hrn hri).mp cd) (by omega)
    · refine lv_aload_n hx hb dX11_init_370 rfl (lv_at hl 1 rfl) ?_
      refine nz_get (q0 := 0) X w rfl cg_X11_25 rfl dX11_init_371 ?_
      refine lv_iload_n hx hb dX11_init_374 rfl (lv_at hl 0 rfl) ?_
      refine nz_iconst X dX11_init_375 ?_
      refine nz_ast (q0 := 6) (n := 42) X w rfl hri (by omega) dX11_init_376 (fun H locs w => ?_)
      rw [upd_if] at w
      have e1 : wrap ((i : Int) + 1) = ((i + 1 : Nat) : Int) := by rw [wrap_of (by omega) (by omega)]; omega
      refine lv_iinc (v := i2 ((i + 1 : Nat) : Int)) (lv' := [(1, .int (i2 ((i + 1 : Nat) : Int))), (0, .ref h0)]) hx hb dX11_init_377 hl (k := 0) rfl (by rw [← e1]; exact i2_add _ _) (by decide) rfl (fun ls hl => ?_)
      refine lv_goto (tgt := 364) hx hb dX11_init_380 (by decide) ?_
      exact ih (i + 1) (by omega) hl w
set_option maxRecDepth 100000 in
set_option maxHeartbeats 4000000 in
theorem m_loop2 (X : CN p s m args c cX11_init 2 RX11 D aC A H0) {h0 : Nat} {u : Nat → Nat} {f1 : Nat → Int32} (HE : ∀ (H : Heap) (locs : List Loc) (ls : Array Slot), WN D A H0 (wM aC h0 u f1 (fun _ => i2 (-1)) (fun _ => i2 (-1)) (fun _ => i2 (-1)) (fun _ => i2 (-1))) H locs → W p l e R s m args below meth c H locs cells slots Q (F0 m 425 ls [])) : ∀ (k i : Nat), k + i = 14 → ∀ {H : Heap} {locs : List Loc} {ls : Array Slot}, lv_has ls 2 [(1, .int (i2 (i : Int))), (0, .ref h0)] → WN D A H0 (wM aC h0 u f1 (fun j => if j < i then i2 (-1) else i2 0) (fun j => if j < i then i2 (-1) else i2 0) (fun j => if j < i then i2 (-1) else i2 0) (fun j => if j < i then i2 (-1) else i2 0)) H locs → W p l e R s m args below meth c H locs cells slots Q (F0 m 385 ls []) := by
  have hx := X.1.1
  have hb := X.1.2.1
  have hrn : inR 14 := inL rfl
  intro k
  induction k with
  | zero =>
    intro i hi H locs ls hl w
    have hri : inR (i : Int) := ⟨by omega, by omega⟩
    refine lv_iload_n hx hb dX11_init_385 rfl (lv_at hl 0 rfl) ?_
    refine nz_bipush X dX11_init_386 (by decide) ?_
    refine lv_icmp_ge (tgt := 425) hx hb dX11_init_388 (by decide) (fun cd => ?_) (fun cd => ?_)
    · have w1 := nz_ext (k0 := 30) (g := fun _ => i2 (-1)) w rfl (fun j hj => if_pos (by omega))
      have w2 := nz_ext (k0 := 39) (g := fun _ => i2 (-1)) w1 rfl (fun j hj => if_pos (by omega))
      have w3 := nz_ext (k0 := 34) (g := fun _ => i2 (-1)) w2 rfl (fun j hj => if_pos (by omega))
      have w4 := nz_ext (k0 := 35) (g := fun _ => i2 (-1)) w3 rfl (fun j hj => if_pos (by omega))
      exact HE H locs ls w4
    · exact absurd ((i2_le hrn hri).mpr (by omega)) cd
  | succ k ih =>
    intro i hi H locs ls hl w
    have hri : inR (i : Int) := ⟨by omega, by omega⟩
    refine lv_iload_n hx hb dX11_init_385 rfl (lv_at hl 0 rfl) ?_
    refine nz_bipush X dX11_init_386 (by decide) ?_
    refine lv_icmp_ge (tgt := 425) hx hb dX11_init_388 (by decide) (fun cd => ?_) (fun cd => ?_)
    · exact absurd ((i2_le hrn hri).mp cd) (by omega)
    · generalize hg : (fun j : Nat => if j < i then i2 (-1) else i2 0) = g at w
      have hu : upd g ((i : Int)).toNat (i2 (-1)) = fun j => if j < i + 1 then i2 (-1) else i2 0 := by rw [← hg]; exact upd_if
      refine lv_aload_n hx hb dX11_init_391 rfl (lv_at hl 1 rfl) ?_
      refine nz_get (q0 := 0) X w rfl cg_X11_106 rfl dX11_init_392 ?_
      refine lv_iload_n hx hb dX11_init_395 rfl (lv_at hl 0 rfl) ?_
      refine nz_iconst X dX11_init_396 ?_
      refine nz_ast (q0 := 30) (n := 14) X w rfl hri (by omega) dX11_init_397 (fun H locs w => ?_)
      have w : WN D A H0 (wM aC h0 u f1 (upd g ((i : Int)).toNat (i2 (-1))) g g g) H _ := w
      refine lv_aload_n hx hb dX11_init_398 rfl (lv_at hl 1 rfl) ?_
      refine nz_get (q0 := 0) X w rfl cg_X11_136 rfl dX11_init_399 ?_
      refine lv_iload_n hx hb dX11_init_402 rfl (lv_at hl 0 rfl) ?_
      refine nz_iconst X dX11_init_403 ?_
      refine nz_ast (q0 := 39) (n := 14) X w rfl hri (by omega) dX11_init_404 (fun H locs w => ?_)
      have w : WN D A H0 (wM aC h0 u f1 (upd g ((i : Int)).toNat (i2 (-1))) (upd g ((i : Int)).toNat (i2 (-1))) g g) H _ := w
      refine lv_aload_n hx hb dX11_init_405 rfl (lv_at hl 1 rfl) ?_
      refine nz_get (q0 := 0) X w rfl cg_X11_121 rfl dX11_init_406 ?_
      refine lv_iload_n hx hb dX11_init_409 rfl (lv_at hl 0 rfl) ?_
      refine nz_iconst X dX11_init_410 ?_
      refine nz_ast (q0 := 34) (n := 14) X w rfl hri (by omega) dX11_init_411 (fun H locs w => ?_)
      have w : WN D A H0 (wM aC h0 u f1 (upd g ((i : Int)).toNat (i2 (-1))) (upd g ((i : Int)).toNat (i2 (-1))) (upd g ((i : Int)).toNat (i2 (-1))) g) H _ := w
      refine lv_aload_n hx hb dX11_init_412 rfl (lv_at hl 1 rfl) ?_
      refine nz_get (q0 := 0) X w rfl cg_X11_124 rfl dX11_init_413 ?_
      refine lv_iload_n hx hb dX11_init_416 rfl (lv_at hl 0 rfl) ?_
      refine nz_iconst X dX11_init_417 ?_
      refine nz_ast (q0 := 35) (n := 14) X w rfl hri (by omega) dX11_init_418 (fun H locs w => ?_)
      have w : WN D A H0 (wM aC h0 u f1 (upd g ((i : Int)).toNat (i2 (-1))) (upd g ((i : Int)).toNat (i2 (-1))) (upd g ((i : Int)).toNat (i2 (-1))) (upd g ((i : Int)).toNat (i2 (-1)))) H _ := w
      rw [hu] at w
      have e1 : wrap ((i : Int) + 1) = ((i + 1 : Nat) : Int) := by rw [wrap_of (by omega) (by omega)]; omega
      refine lv_iinc (v := i2 ((i + 1 : Nat) : Int)) (lv' := [(1, .int (i2 ((i + 1 : Nat) : Int))), (0, .ref h0)]) hx hb dX11_init_419 hl (k := 0) rfl (by rw [← e1]; exact i2_add _ _) (by decide) rfl (fun ls hl => ?_)
      refine lv_goto (tgt := 385) hx hb dX11_init_422 (by decide) ?_
      exact ih (i + 1) (by omega) hl w
end MLOOPS
set_option maxRecDepth 100000 in
set_option maxHeartbeats 4000000 in
theorem k_X11_init {l : Launch} {D : va_G} {aC : Nat → ClassId} (h0 : Nat) : MetN l D aC (Nat → Nat) yX11_init cX11_init 2 rm_X11_init rm_X11_init.cells rm_X11_init.slots h0 (.inr (11, bo_X11)) [] (wX11 aC h0) := by
  refine MetN.of (by decide +kernel) rfl (nle rfl) (fun p e s m args below meth c Q A H0 ls X hin hl w hret => ?_)
  have hx := X.1.1
  have hb := X.1.2.1
  replace hl : lv_has ls 2 [(0, .ref h0)] := hl
  refine lv_aload_n hx hb dX11_init_0 rfl (lv_at hl 0 rfl) ?_
  refine nz_obj X obw_X11 hl.1 ⟨nle rfl, nle rfl⟩ dX11_init_1 ?_
  refine lv_aload_n hx hb dX11_init_4 rfl (lv_at hl 0 rfl) ?_
  refine nz_bipush X dX11_init_5 (by decide) ?_
  refine nz_new_int (n := 14) X w acw_int (by decide) (nle rfl) (nle rfl) dX11_init_7 (fun q1 H w => ?_)
  have w : WN D A H0 ([(h0, .inr (11, [.int (i2 0), .int (i2 0), .null, .null, .null, .null, .null, .null, .null, .null, .null, .null, .int (i2 0), .null, .int (i2 0), .int (i2 0), .null, .null, .null, .null, .null, .int (i2 0), .int (i2 0), .null, .null, .null, .null, .null, .null, .null, .null, .null, .int (i2 0), .int (i2 0), .int (i2 0), .int (i2 0), .int (i2 0), .int (i2 0), .int (i2 0), .null, .null, .null, .null, .int (i2 0), .int (i2 0), .int (i2 0), .int (i2 0), .null, .int (i2 0), .null, .int (i2 0), .null, .null, .null, .null, .int (i2 0), .int (i2 0), .null, .null, .null, .null])), arC q1 (aC 0) 14 0]) H _ := w
  refine nz_putf (q0 := 0) X hin w rfl cp_X11_7 (nlt_ rfl) rfl rfl dX11_init_9 (fun H locs w => ?_)
  have w : WN D A H0 ([(h0, .inr (11, [.int (i2 0), .int (i2 0), .ref q1, .null, .null, .null, .null, .null, .null, .null, .null, .null, .int (i2 0), .null, .int (i2 0), .int (i2 0), .null, .null, .null, .null, .null, .int (i2 0), .int (i2 0), .null, .null, .null, .null, .null, .null, .null, .null, .null, .int (i2 0), .int (i2 0), .int (i2 0), .int (i2 0), .int (i2 0), .int (i2 0), .int (i2 0), .null, .null, .null, .null, .int (i2 0), .int (i2 0), .int (i2 0), .int (i2 0), .null, .int (i2 0), .null, .int (i2 0), .null, .null, .null, .null, .int (i2 0), .int (i2 0), .null, .null, .null, .null])), arC q1 (aC 0) 14 0]) H _ := w
  refine lv_aload_n hx hb dX11_init_12 rfl (lv_at hl 0 rfl) ?_
  refine nz_bipush X dX11_init_13 (by decide) ?_
  refine nz_new_int (n := 14) X w acw_int (by decide) (nle rfl) (nle rfl) dX11_init_15 (fun q2 H w => ?_)
  have w : WN D A H0 ([(h0, .inr (11, [.int (i2 0), .int (i2 0), .ref q1, .null, .null, .null, .null, .null, .null, .null, .null, .null, .int (i2 0), .null, .int (i2 0), .int (i2 0), .null, .null, .null, .null, .null, .int (i2 0), .int (i2 0), .null, .null, .null, .null, .null, .null, .null, .null, .null, .int (i2 0), .int (i2 0), .int (i2 0), .int (i2 0), .int (i2 0), .int (i2 0), .int (i2 0), .null, .null, .null, .null, .int (i2 0), .int (i2 0), .int (i2 0), .int (i2 0), .null, .int (i2 0), .null, .int (i2 0), .null, .null, .null, .null, .int (i2 0), .int (i2 0), .null, .null, .null, .null])), arC q1 (aC 0) 14 0, arC q2 (aC 0) 14 0]) H _ := w
  refine nz_putf (q0 := 0) X hin w rfl cp_X11_13 (nlt_ rfl) rfl rfl dX11_init_17 (fun H locs w => ?_)
  have w : WN D A H0 ([(h0, .inr (11, [.int (i2 0), .int (i2 0), .ref q1, .ref q2, .null, .null, .null, .null, .null, .null, .null, .null, .int (i2 0), .null, .int (i2 0), .int (i2 0), .null, .null, .null, .null, .null, .int (i2 0), .int (i2 0), .null, .null, .null, .null, .null, .null, .null, .null, .null, .int (i2 0), .int (i2 0), .int (i2 0), .int (i2 0), .int (i2 0), .int (i2 0), .int (i2 0), .null, .null, .null, .null, .int (i2 0), .int (i2 0), .int (i2 0), .int (i2 0), .null, .int (i2 0), .null, .int (i2 0), .null, .null, .null, .null, .int (i2 0), .int (i2 0), .null, .null, .null, .null])), arC q1 (aC 0) 14 0, arC q2 (aC 0) 14 0]) H _ := w
  refine lv_aload_n hx hb dX11_init_20 rfl (lv_at hl 0 rfl) ?_
  refine nz_bipush X dX11_init_21 (by decide) ?_
  refine nz_new_int (n := 14) X w acw_int (by decide) (nle rfl) (nle rfl) dX11_init_23 (fun q3 H w => ?_)
  have w : WN D A H0 ([(h0, .inr (11, [.int (i2 0), .int (i2 0), .ref q1, .ref q2, .null, .null, .null, .null, .null, .null, .null, .null, .int (i2 0), .null, .int (i2 0), .int (i2 0), .null, .null, .null, .null, .null, .int (i2 0), .int (i2 0), .null, .null, .null, .null, .null, .null, .null, .null, .null, .int (i2 0), .int (i2 0), .int (i2 0), .int (i2 0), .int (i2 0), .int (i2 0), .int (i2 0), .null, .null, .null, .null, .int (i2 0), .int (i2 0), .int (i2 0), .int (i2 0), .null, .int (i2 0), .null, .int (i2 0), .null, .null, .null, .null, .int (i2 0), .int (i2 0), .null, .null, .null, .null])), arC q1 (aC 0) 14 0, arC q2 (aC 0) 14 0, arC q3 (aC 0) 14 0]) H _ := w
  refine nz_putf (q0 := 0) X hin w rfl cp_X11_16 (nlt_ rfl) rfl rfl dX11_init_25 (fun H locs w => ?_)
  have w : WN D A H0 ([(h0, .inr (11, [.int (i2 0), .int (i2 0), .ref q1, .ref q2, .ref q3, .null, .null, .null, .null, .null, .null, .null, .int (i2 0), .null, .int (i2 0), .int (i2 0), .null, .null, .null, .null, .null, .int (i2 0), .int (i2 0), .null, .null, .null, .null, .null, .null, .null, .null, .null, .int (i2 0), .int (i2 0), .int (i2 0), .int (i2 0), .int (i2 0), .int (i2 0), .int (i2 0), .null, .null, .null, .null, .int (i2 0), .int (i2 0), .int (i2 0), .int (i2 0), .null, .int (i2 0), .null, .int (i2 0), .null, .null, .null, .null, .int (i2 0), .int (i2 0), .null, .null, .null, .null])), arC q1 (aC 0) 14 0, arC q2 (aC 0) 14 0, arC q3 (aC 0) 14 0]) H _ := w
  refine lv_aload_n hx hb dX11_init_28 rfl (lv_at hl 0 rfl) ?_
  refine nz_bipush X dX11_init_29 (by decide) ?_
  refine nz_new_int (n := 14) X w acw_int (by decide) (nle rfl) (nle rfl) dX11_init_31 (fun q4 H w => ?_)
  have w : WN D A H0 ([(h0, .inr (11, [.int (i2 0), .int (i2 0), .ref q1, .ref q2, .ref q3, .null, .null, .null, .null, .null, .null, .null, .int (i2 0), .null, .int (i2 0), .int (i2 0), .null, .null, .null, .null, .null, .int (i2 0), .int (i2 0), .null, .null, .null, .null, .null, .null, .null, .null, .null, .int (i2 0), .int (i2 0), .int (i2 0), .int (i2 0), .int (i2 0), .int (i2 0), .int (i2 0), .null, .null, .null, .null, .int (i2 0), .int (i2 0), .int (i2 0), .int (i2 0), .null, .int (i2 0), .null, .int (i2 0), .null, .null, .null, .null, .int (i2 0), .int (i2 0), .null, .null, .null, .null])), arC q1 (aC 0) 14 0, arC q2 (aC 0) 14 0, arC q3 (aC 0) 14 0, arC q4 (aC 0) 14 0]) H _ := w
  refine nz_putf (q0 := 0) X hin w rfl cp_X11_19 (nlt_ rfl) rfl rfl dX11_init_33 (fun H locs w => ?_)
  have w : WN D A H0 ([(h0, .inr (11, [.int (i2 0), .int (i2 0), .ref q1, .ref q2, .ref q3, .ref q4, .null, .null, .null, .null, .null, .null, .int (i2 0), .null, .int (i2 0), .int (i2 0), .null, .null, .null, .null, .null, .int (i2 0), .int (i2 0), .null, .null, .null, .null, .null, .null, .null, .null, .null, .int (i2 0), .int (i2 0), .int (i2 0), .int (i2 0), .int (i2 0), .int (i2 0), .int (i2 0), .null, .null, .null, .null, .int (i2 0), .int (i2 0), .int (i2 0), .int (i2 0), .null, .int (i2 0), .null, .int (i2 0), .null, .null, .null, .null, .int (i2 0), .int (i2 0), .null, .null, .null, .null])), arC q1 (aC 0) 14 0, arC q2 (aC 0) 14 0, arC q3 (aC 0) 14 0, arC q4 (aC 0) 14 0]) H _ := w
  refine lv_aload_n hx hb dX11_init_36 rfl (lv_at hl 0 rfl) ?_
  refine nz_bipush X dX11_init_37 (by decide) ?_
  refine nz_new_int (n := 14) X w acw_int (by decide) (nle rfl) (nle rfl) dX11_init_39 (fun q5 H w => ?_)
  have w : WN D A H0 ([(h0, .inr (11, [.int (i2 0), .int (i2 0), .ref q1, .ref q2, .ref q3, .ref q4, .null, .null, .null, .null, .null, .null, .int (i2 0), .null, .int (i2 0), .int (i2 0), .null, .null, .null, .null, .null, .int (i2 0), .int (i2 0), .null, .null, .null, .null, .null, .null, .null, .null, .null, .int (i2 0), .int (i2 0), .int (i2 0), .int (i2 0), .int (i2 0), .int (i2 0), .int (i2 0), .null, .null, .null, .null, .int (i2 0), .int (i2 0), .int (i2 0), .int (i2 0), .null, .int (i2 0), .null, .int (i2 0), .null, .null, .null, .null, .int (i2 0), .int (i2 0), .null, .null, .null, .null])), arC q1 (aC 0) 14 0, arC q2 (aC 0) 14 0, arC q3 (aC 0) 14 0, arC q4 (aC 0) 14 0, arC q5 (aC 0) 14 0]) H _ := w
  refine nz_putf (q0 := 0) X hin w rfl cp_X11_22 (nlt_ rfl) rfl rfl dX11_init_41 (fun H locs w => ?_)
  have w : WN D A H0 ([(h0, .inr (11, [.int (i2 0), .int (i2 0), .ref q1, .ref q2, .ref q3, .ref q4, .ref q5, .null, .null, .null, .null, .null, .int (i2 0), .null, .int (i2 0), .int (i2 0), .null, .null, .null, .null, .null, .int (i2 0), .int (i2 0), .null, .null, .null, .null, .null, .null, .null, .null, .null, .int (i2 0), .int (i2 0), .int (i2 0), .int (i2 0), .int (i2 0), .int (i2 0), .int (i2 0), .null, .null, .null, .null, .int (i2 0), .int (i2 0), .int (i2 0), .int (i2 0), .null, .int (i2 0), .null, .int (i2 0), .null, .null, .null, .null, .int (i2 0), .int (i2 0), .null, .null, .null, .null])), arC q1 (aC 0) 14 0, arC q2 (aC 0) 14 0, arC q3 (aC 0) 14 0, arC q4 (aC 0) 14 0, arC q5 (aC 0) 14 0]) H _ := w
  refine lv_aload_n hx hb dX11_init_44 rfl (lv_at hl 0 rfl) ?_
  refine nz_bipush X dX11_init_45 (by decide) ?_
  refine nz_new_int (n := 42) X w acw_int (by decide) (nle rfl) (nle rfl) dX11_init_47 (fun q6 H w => ?_)
  have w : WN D A H0 ([(h0, .inr (11, [.int (i2 0), .int (i2 0), .ref q1, .ref q2, .ref q3, .ref q4, .ref q5, .null, .null, .null, .null, .null, .int (i2 0), .null, .int (i2 0), .int (i2 0), .null, .null, .null, .null, .null, .int (i2 0), .int (i2 0), .null, .null, .null, .null, .null, .null, .null, .null, .null, .int (i2 0), .int (i2 0), .int (i2 0), .int (i2 0), .int (i2 0), .int (i2 0), .int (i2 0), .null, .null, .null, .null, .int (i2 0), .int (i2 0), .int (i2 0), .int (i2 0), .null, .int (i2 0), .null, .int (i2 0), .null, .null, .null, .null, .int (i2 0), .int (i2 0), .null, .null, .null, .null])), arC q1 (aC 0) 14 0, arC q2 (aC 0) 14 0, arC q3 (aC 0) 14 0, arC q4 (aC 0) 14 0, arC q5 (aC 0) 14 0, arC q6 (aC 0) 42 0]) H _ := w
  refine nz_putf (q0 := 0) X hin w rfl cp_X11_25 (nlt_ rfl) rfl rfl dX11_init_49 (fun H locs w => ?_)
  have w : WN D A H0 ([(h0, .inr (11, [.int (i2 0), .int (i2 0), .ref q1, .ref q2, .ref q3, .ref q4, .ref q5, .ref q6, .null, .null, .null, .null, .int (i2 0), .null, .int (i2 0), .int (i2 0), .null, .null, .null, .null, .null, .int (i2 0), .int (i2 0), .null, .null, .null, .null, .null, .null, .null, .null, .null, .int (i2 0), .int (i2 0), .int (i2 0), .int (i2 0), .int (i2 0), .int (i2 0), .int (i2 0), .null, .null, .null, .null, .int (i2 0), .int (i2 0), .int (i2 0), .int (i2 0), .null, .int (i2 0), .null, .int (i2 0), .null, .null, .null, .null, .int (i2 0), .int (i2 0), .null, .null, .null, .null])), arC q1 (aC 0) 14 0, arC q2 (aC 0) 14 0, arC q3 (aC 0) 14 0, arC q4 (aC 0) 14 0, arC q5 (aC 0) 14 0, arC q6 (aC 0) 42 0]) H _ := w
  refine lv_aload_n hx hb dX11_init_52 rfl (lv_at hl 0 rfl) ?_
  refine nz_sipush X dX11_init_53 (by decide) ?_
  refine nz_new_int (n := 196) X w acw_int (by decide) (nle rfl) (nle rfl) dX11_init_56 (fun q7 H w => ?_)
  have w : WN D A H0 ([(h0, .inr (11, [.int (i2 0), .int (i2 0), .ref q1, .ref q2, .ref q3, .ref q4, .ref q5, .ref q6, .null, .null, .null, .null, .int (i2 0), .null, .int (i2 0), .int (i2 0), .null, .null, .null, .null, .null, .int (i2 0), .int (i2 0), .null, .null, .null, .null, .null, .null, .null, .null, .null, .int (i2 0), .int (i2 0), .int (i2 0), .int (i2 0), .int (i2 0), .int (i2 0), .int (i2 0), .null, .null, .null, .null, .int (i2 0), .int (i2 0), .int (i2 0), .int (i2 0), .null, .int (i2 0), .null, .int (i2 0), .null, .null, .null, .null, .int (i2 0), .int (i2 0), .null, .null, .null, .null])), arC q1 (aC 0) 14 0, arC q2 (aC 0) 14 0, arC q3 (aC 0) 14 0, arC q4 (aC 0) 14 0, arC q5 (aC 0) 14 0, arC q6 (aC 0) 42 0, arC q7 (aC 0) 196 0]) H _ := w
  refine nz_putf (q0 := 0) X hin w rfl cp_X11_28 (nlt_ rfl) rfl rfl dX11_init_58 (fun H locs w => ?_)
  have w : WN D A H0 ([(h0, .inr (11, [.int (i2 0), .int (i2 0), .ref q1, .ref q2, .ref q3, .ref q4, .ref q5, .ref q6, .ref q7, .null, .null, .null, .int (i2 0), .null, .int (i2 0), .int (i2 0), .null, .null, .null, .null, .null, .int (i2 0), .int (i2 0), .null, .null, .null, .null, .null, .null, .null, .null, .null, .int (i2 0), .int (i2 0), .int (i2 0), .int (i2 0), .int (i2 0), .int (i2 0), .int (i2 0), .null, .null, .null, .null, .int (i2 0), .int (i2 0), .int (i2 0), .int (i2 0), .null, .int (i2 0), .null, .int (i2 0), .null, .null, .null, .null, .int (i2 0), .int (i2 0), .null, .null, .null, .null])), arC q1 (aC 0) 14 0, arC q2 (aC 0) 14 0, arC q3 (aC 0) 14 0, arC q4 (aC 0) 14 0, arC q5 (aC 0) 14 0, arC q6 (aC 0) 42 0, arC q7 (aC 0) 196 0]) H _ := w
  refine lv_aload_n hx hb dX11_init_61 rfl (lv_at hl 0 rfl) ?_
  refine nz_sipush X dX11_init_62 (by decide) ?_
  refine nz_new_boolean (n := 196) X w acw_boolean (by decide) (nle rfl) (nle rfl) dX11_init_65 (fun q8 H w => ?_)
  have w : WN D A H0 ([(h0, .inr (11, [.int (i2 0), .int (i2 0), .ref q1, .ref q2, .ref q3, .ref q4, .ref q5, .ref q6, .ref q7, .null, .null, .null, .int (i2 0), .null, .int (i2 0), .int (i2 0), .null, .null, .null, .null, .null, .int (i2 0), .int (i2 0), .null, .null, .null, .null, .null, .null, .null, .null, .null, .int (i2 0), .int (i2 0), .int (i2 0), .int (i2 0), .int (i2 0), .int (i2 0), .int (i2 0), .null, .null, .null, .null, .int (i2 0), .int (i2 0), .int (i2 0), .int (i2 0), .null, .int (i2 0), .null, .int (i2 0), .null, .null, .null, .null, .int (i2 0), .int (i2 0), .null, .null, .null, .null])), arC q1 (aC 0) 14 0, arC q2 (aC 0) 14 0, arC q3 (aC 0) 14 0, arC q4 (aC 0) 14 0, arC q5 (aC 0) 14 0, arC q6 (aC 0) 42 0, arC q7 (aC 0) 196 0, arC q8 (aC 1) 196 0]) H _ := w
  refine nz_putf (q0 := 0) X hin w rfl cp_X11_31 (nlt_ rfl) rfl rfl dX11_init_67 (fun H locs w => ?_)
  have w : WN D A H0 ([(h0, .inr (11, [.int (i2 0), .int (i2 0), .ref q1, .ref q2, .ref q3, .ref q4, .ref q5, .ref q6, .ref q7, .ref q8, .null, .null, .int (i2 0), .null, .int (i2 0), .int (i2 0), .null, .null, .null, .null, .null, .int (i2 0), .int (i2 0), .null, .null, .null, .null, .null, .null, .null, .null, .null, .int (i2 0), .int (i2 0), .int (i2 0), .int (i2 0), .int (i2 0), .int (i2 0), .int (i2 0), .null, .null, .null, .null, .int (i2 0), .int (i2 0), .int (i2 0), .int (i2 0), .null, .int (i2 0), .null, .int (i2 0), .null, .null, .null, .null, .int (i2 0), .int (i2 0), .null, .null, .null, .null])), arC q1 (aC 0) 14 0, arC q2 (aC 0) 14 0, arC q3 (aC 0) 14 0, arC q4 (aC 0) 14 0, arC q5 (aC 0) 14 0, arC q6 (aC 0) 42 0, arC q7 (aC 0) 196 0, arC q8 (aC 1) 196 0]) H _ := w
  refine lv_aload_n hx hb dX11_init_70 rfl (lv_at hl 0 rfl) ?_
  refine nz_sipush X dX11_init_71 (by decide) ?_
  refine nz_new_boolean (n := 196) X w acw_boolean (by decide) (nle rfl) (nle rfl) dX11_init_74 (fun q9 H w => ?_)
  have w : WN D A H0 ([(h0, .inr (11, [.int (i2 0), .int (i2 0), .ref q1, .ref q2, .ref q3, .ref q4, .ref q5, .ref q6, .ref q7, .ref q8, .null, .null, .int (i2 0), .null, .int (i2 0), .int (i2 0), .null, .null, .null, .null, .null, .int (i2 0), .int (i2 0), .null, .null, .null, .null, .null, .null, .null, .null, .null, .int (i2 0), .int (i2 0), .int (i2 0), .int (i2 0), .int (i2 0), .int (i2 0), .int (i2 0), .null, .null, .null, .null, .int (i2 0), .int (i2 0), .int (i2 0), .int (i2 0), .null, .int (i2 0), .null, .int (i2 0), .null, .null, .null, .null, .int (i2 0), .int (i2 0), .null, .null, .null, .null])), arC q1 (aC 0) 14 0, arC q2 (aC 0) 14 0, arC q3 (aC 0) 14 0, arC q4 (aC 0) 14 0, arC q5 (aC 0) 14 0, arC q6 (aC 0) 42 0, arC q7 (aC 0) 196 0, arC q8 (aC 1) 196 0, arC q9 (aC 1) 196 0]) H _ := w
  refine nz_putf (q0 := 0) X hin w rfl cp_X11_35 (nlt_ rfl) rfl rfl dX11_init_76 (fun H locs w => ?_)
  have w : WN D A H0 ([(h0, .inr (11, [.int (i2 0), .int (i2 0), .ref q1, .ref q2, .ref q3, .ref q4, .ref q5, .ref q6, .ref q7, .ref q8, .ref q9, .null, .int (i2 0), .null, .int (i2 0), .int (i2 0), .null, .null, .null, .null, .null, .int (i2 0), .int (i2 0), .null, .null, .null, .null, .null, .null, .null, .null, .null, .int (i2 0), .int (i2 0), .int (i2 0), .int (i2 0), .int (i2 0), .int (i2 0), .int (i2 0), .null, .null, .null, .null, .int (i2 0), .int (i2 0), .int (i2 0), .int (i2 0), .null, .int (i2 0), .null, .int (i2 0), .null, .null, .null, .null, .int (i2 0), .int (i2 0), .null, .null, .null, .null])), arC q1 (aC 0) 14 0, arC q2 (aC 0) 14 0, arC q3 (aC 0) 14 0, arC q4 (aC 0) 14 0, arC q5 (aC 0) 14 0, arC q6 (aC 0) 42 0, arC q7 (aC 0) 196 0, arC q8 (aC 1) 196 0, arC q9 (aC 1) 196 0]) H _ := w
  refine lv_aload_n hx hb dX11_init_79 rfl (lv_at hl 0 rfl) ?_
  refine nz_bipush X dX11_init_80 (by decide) ?_
  refine nz_new_boolean (n := 42) X w acw_boolean (by decide) (nle rfl) (nle rfl) dX11_init_82 (fun q10 H w => ?_)
  have w : WN D A H0 ([(h0, .inr (11, [.int (i2 0), .int (i2 0), .ref q1, .ref q2, .ref q3, .ref q4, .ref q5, .ref q6, .ref q7, .ref q8, .ref q9, .null, .int (i2 0), .null, .int (i2 0), .int (i2 0), .null, .null, .null, .null, .null, .int (i2 0), .int (i2 0), .null, .null, .null, .null, .null, .null, .null, .null, .null, .int (i2 0), .int (i2 0), .int (i2 0), .int (i2 0), .int (i2 0), .int (i2 0), .int (i2 0), .null, .null, .null, .null, .int (i2 0), .int (i2 0), .int (i2 0), .int (i2 0), .null, .int (i2 0), .null, .int (i2 0), .null, .null, .null, .null, .int (i2 0), .int (i2 0), .null, .null, .null, .null])), arC q1 (aC 0) 14 0, arC q2 (aC 0) 14 0, arC q3 (aC 0) 14 0, arC q4 (aC 0) 14 0, arC q5 (aC 0) 14 0, arC q6 (aC 0) 42 0, arC q7 (aC 0) 196 0, arC q8 (aC 1) 196 0, arC q9 (aC 1) 196 0, arC q10 (aC 1) 42 0]) H _ := w
  refine nz_putf (q0 := 0) X hin w rfl cp_X11_38 (nlt_ rfl) rfl rfl dX11_init_84 (fun H locs w => ?_)
  have w : WN D A H0 ([(h0, .inr (11, [.int (i2 0), .int (i2 0), .ref q1, .ref q2, .ref q3, .ref q4, .ref q5, .ref q6, .ref q7, .ref q8, .ref q9, .ref q10, .int (i2 0), .null, .int (i2 0), .int (i2 0), .null, .null, .null, .null, .null, .int (i2 0), .int (i2 0), .null, .null, .null, .null, .null, .null, .null, .null, .null, .int (i2 0), .int (i2 0), .int (i2 0), .int (i2 0), .int (i2 0), .int (i2 0), .int (i2 0), .null, .null, .null, .null, .int (i2 0), .int (i2 0), .int (i2 0), .int (i2 0), .null, .int (i2 0), .null, .int (i2 0), .null, .null, .null, .null, .int (i2 0), .int (i2 0), .null, .null, .null, .null])), arC q1 (aC 0) 14 0, arC q2 (aC 0) 14 0, arC q3 (aC 0) 14 0, arC q4 (aC 0) 14 0, arC q5 (aC 0) 14 0, arC q6 (aC 0) 42 0, arC q7 (aC 0) 196 0, arC q8 (aC 1) 196 0, arC q9 (aC 1) 196 0, arC q10 (aC 1) 42 0]) H _ := w
  refine lv_aload_n hx hb dX11_init_87 rfl (lv_at hl 0 rfl) ?_
  refine nz_iconst X dX11_init_88 ?_
  refine nz_put (q0 := 0) X w rfl cp_X11_41 (nlt_ rfl) rfl rfl dX11_init_89 (fun H locs w => ?_)
  have w : WN D A H0 ([(h0, .inr (11, [.int (i2 0), .int (i2 0), .ref q1, .ref q2, .ref q3, .ref q4, .ref q5, .ref q6, .ref q7, .ref q8, .ref q9, .ref q10, .int (i2 2), .null, .int (i2 0), .int (i2 0), .null, .null, .null, .null, .null, .int (i2 0), .int (i2 0), .null, .null, .null, .null, .null, .null, .null, .null, .null, .int (i2 0), .int (i2 0), .int (i2 0), .int (i2 0), .int (i2 0), .int (i2 0), .int (i2 0), .null, .null, .null, .null, .int (i2 0), .int (i2 0), .int (i2 0), .int (i2 0), .null, .int (i2 0), .null, .int (i2 0), .null, .null, .null, .null, .int (i2 0), .int (i2 0), .null, .null, .null, .null])), arC q1 (aC 0) 14 0, arC q2 (aC 0) 14 0, arC q3 (aC 0) 14 0, arC q4 (aC 0) 14 0, arC q5 (aC 0) 14 0, arC q6 (aC 0) 42 0, arC q7 (aC 0) 196 0, arC q8 (aC 1) 196 0, arC q9 (aC 1) 196 0, arC q10 (aC 1) 42 0]) H _ := w
  refine lv_aload_n hx hb dX11_init_92 rfl (lv_at hl 0 rfl) ?_
  refine nz_iconst X dX11_init_93 ?_
  refine nz_new_int (n := 3) X w acw_int (by decide) (nle rfl) (nle rfl) dX11_init_94 (fun q11 H w => ?_)
  have w : WN D A H0 ([(h0, .inr (11, [.int (i2 0), .int (i2 0), .ref q1, .ref q2, .ref q3, .ref q4, .ref q5, .ref q6, .ref q7, .ref q8, .ref q9, .ref q10, .int (i2 2), .null, .int (i2 0), .int (i2 0), .null, .null, .null, .null, .null, .int (i2 0), .int (i2 0), .null, .null, .null, .null, .null, .null, .null, .null, .null, .int (i2 0), .int (i2 0), .int (i2 0), .int (i2 0), .int (i2 0), .int (i2 0), .int (i2 0), .null, .null, .null, .null, .int (i2 0), .int (i2 0), .int (i2 0), .int (i2 0), .null, .int (i2 0), .null, .int (i2 0), .null, .null, .null, .null, .int (i2 0), .int (i2 0), .null, .null, .null, .null])), arC q1 (aC 0) 14 0, arC q2 (aC 0) 14 0, arC q3 (aC 0) 14 0, arC q4 (aC 0) 14 0, arC q5 (aC 0) 14 0, arC q6 (aC 0) 42 0, arC q7 (aC 0) 196 0, arC q8 (aC 1) 196 0, arC q9 (aC 1) 196 0, arC q10 (aC 1) 42 0, arC q11 (aC 0) 3 0]) H _ := w
  refine lv_dup hx hb dX11_init_96 rfl ?_
  refine nz_iconst X dX11_init_97 ?_
  refine nz_bipush X dX11_init_98 (by decide) ?_
  refine nz_ast (q0 := 11) (n := 3) X w rfl (inL rfl) (by decide) dX11_init_100 (fun H locs w => ?_)
  have w : WN D A H0 ([(h0, .inr (11, [.int (i2 0), .int (i2 0), .ref q1, .ref q2, .ref q3, .ref q4, .ref q5, .ref q6, .ref q7, .ref q8, .ref q9, .ref q10, .int (i2 2), .null, .int (i2 0), .int (i2 0), .null, .null, .null, .null, .null, .int (i2 0), .int (i2 0), .null, .null, .null, .null, .null, .null, .null, .null, .null, .int (i2 0), .int (i2 0), .int (i2 0), .int (i2 0), .int (i2 0), .int (i2 0), .int (i2 0), .null, .null, .null, .null, .int (i2 0), .int (i2 0), .int (i2 0), .int (i2 0), .null, .int (i2 0), .null, .int (i2 0), .null, .null, .null, .null, .int (i2 0), .int (i2 0), .null, .null, .null, .null])), arC q1 (aC 0) 14 0, arC q2 (aC 0) 14 0, arC q3 (aC 0) 14 0, arC q4 (aC 0) 14 0, arC q5 (aC 0) 14 0, arC q6 (aC 0) 42 0, arC q7 (aC 0) 196 0, arC q8 (aC 1) 196 0, arC q9 (aC 1) 196 0, arC q10 (aC 1) 42 0, (q11, .inl (aC 0, (3, .inl (upd (fun _ => i2 0) 0 (i2 14)))))]) H _ := w
  refine lv_dup hx hb dX11_init_101 rfl ?_
  refine nz_iconst X dX11_init_102 ?_
  refine nz_bipush X dX11_init_103 (by decide) ?_
  refine nz_ast (q0 := 11) (n := 3) X w rfl (inL rfl) (by decide) dX11_init_105 (fun H locs w => ?_)
  have w : WN D A H0 ([(h0, .inr (11, [.int (i2 0), .int (i2 0), .ref q1, .ref q2, .ref q3, .ref q4, .ref q5, .ref q6, .ref q7, .ref q8, .ref q9, .ref q10, .int (i2 2), .null, .int (i2 0), .int (i2 0), .null, .null, .null, .null, .null, .int (i2 0), .int (i2 0), .null, .null, .null, .null, .null, .null, .null, .null, .null, .int (i2 0), .int (i2 0), .int (i2 0), .int (i2 0), .int (i2 0), .int (i2 0), .int (i2 0), .null, .null, .null, .null, .int (i2 0), .int (i2 0), .int (i2 0), .int (i2 0), .null, .int (i2 0), .null, .int (i2 0), .null, .null, .null, .null, .int (i2 0), .int (i2 0), .null, .null, .null, .null])), arC q1 (aC 0) 14 0, arC q2 (aC 0) 14 0, arC q3 (aC 0) 14 0, arC q4 (aC 0) 14 0, arC q5 (aC 0) 14 0, arC q6 (aC 0) 42 0, arC q7 (aC 0) 196 0, arC q8 (aC 1) 196 0, arC q9 (aC 1) 196 0, arC q10 (aC 1) 42 0, (q11, .inl (aC 0, (3, .inl (upd (upd (fun _ => i2 0) 0 (i2 14)) 1 (i2 14)))))]) H _ := w
  refine lv_dup hx hb dX11_init_106 rfl ?_
  refine nz_iconst X dX11_init_107 ?_
  refine nz_bipush X dX11_init_108 (by decide) ?_
  refine nz_ast (q0 := 11) (n := 3) X w rfl (inL rfl) (by decide) dX11_init_110 (fun H locs w => ?_)
  have w : WN D A H0 ([(h0, .inr (11, [.int (i2 0), .int (i2 0), .ref q1, .ref q2, .ref q3, .ref q4, .ref q5, .ref q6, .ref q7, .ref q8, .ref q9, .ref q10, .int (i2 2), .null, .int (i2 0), .int (i2 0), .null, .null, .null, .null, .null, .int (i2 0), .int (i2 0), .null, .null, .null, .null, .null, .null, .null, .null, .null, .int (i2 0), .int (i2 0), .int (i2 0), .int (i2 0), .int (i2 0), .int (i2 0), .int (i2 0), .null, .null, .null, .null, .int (i2 0), .int (i2 0), .int (i2 0), .int (i2 0), .null, .int (i2 0), .null, .int (i2 0), .null, .null, .null, .null, .int (i2 0), .int (i2 0), .null, .null, .null, .null])), arC q1 (aC 0) 14 0, arC q2 (aC 0) 14 0, arC q3 (aC 0) 14 0, arC q4 (aC 0) 14 0, arC q5 (aC 0) 14 0, arC q6 (aC 0) 42 0, arC q7 (aC 0) 196 0, arC q8 (aC 1) 196 0, arC q9 (aC 1) 196 0, arC q10 (aC 1) 42 0, (q11, .inl (aC 0, (3, .inl (upd (upd (upd (fun _ => i2 0) 0 (i2 14)) 1 (i2 14)) 2 (i2 14)))))]) H _ := w
  have w := nz_ext (k0 := 11) (g := fun _ => i2 14) w rfl (fun j hj => by rcases (show j = 0 ∨ j = 1 ∨ j = 2 by omega) with rfl | rfl | rfl <;> rfl)
  have w : WN D A H0 ([(h0, .inr (11, [.int (i2 0), .int (i2 0), .ref q1, .ref q2, .ref q3, .ref q4, .ref q5, .ref q6, .ref q7, .ref q8, .ref q9, .ref q10, .int (i2 2), .null, .int (i2 0), .int (i2 0), .null, .null, .null, .null, .null, .int (i2 0), .int (i2 0), .null, .null, .null, .null, .null, .null, .null, .null, .null, .int (i2 0), .int (i2 0), .int (i2 0), .int (i2 0), .int (i2 0), .int (i2 0), .int (i2 0), .null, .null, .null, .null, .int (i2 0), .int (i2 0), .int (i2 0), .int (i2 0), .null, .int (i2 0), .null, .int (i2 0), .null, .null, .null, .null, .int (i2 0), .int (i2 0), .null, .null, .null, .null])), arC q1 (aC 0) 14 0, arC q2 (aC 0) 14 0, arC q3 (aC 0) 14 0, arC q4 (aC 0) 14 0, arC q5 (aC 0) 14 0, arC q6 (aC 0) 42 0, arC q7 (aC 0) 196 0, arC q8 (aC 1) 196 0, arC q9 (aC 1) 196 0, arC q10 (aC 1) 42 0, arC q11 (aC 0) 3 14]) H _ := w
  refine nz_putf (q0 := 0) X hin w rfl cp_X11_45 (nlt_ rfl) rfl rfl dX11_init_111 (fun H locs w => ?_)
  have w : WN D A H0 ([(h0, .inr (11, [.int (i2 0), .int (i2 0), .ref q1, .ref q2, .ref q3, .ref q4, .ref q5, .ref q6, .ref q7, .ref q8, .ref q9, .ref q10, .int (i2 2), .ref q11, .int (i2 0), .int (i2 0), .null, .null, .null, .null, .null, .int (i2 0), .int (i2 0), .null, .null, .null, .null, .null, .null, .null, .null, .null, .int (i2 0), .int (i2 0), .int (i2 0), .int (i2 0), .int (i2 0), .int (i2 0), .int (i2 0), .null, .null, .null, .null, .int (i2 0), .int (i2 0), .int (i2 0), .int (i2 0), .null, .int (i2 0), .null, .int (i2 0), .null, .null, .null, .null, .int (i2 0), .int (i2 0), .null, .null, .null, .null])), arC q1 (aC 0) 14 0, arC q2 (aC 0) 14 0, arC q3 (aC 0) 14 0, arC q4 (aC 0) 14 0, arC q5 (aC 0) 14 0, arC q6 (aC 0) 42 0, arC q7 (aC 0) 196 0, arC q8 (aC 1) 196 0, arC q9 (aC 1) 196 0, arC q10 (aC 1) 42 0, arC q11 (aC 0) 3 14]) H _ := w
  refine lv_aload_n hx hb dX11_init_114 rfl (lv_at hl 0 rfl) ?_
  refine nz_sipush X dX11_init_115 (by decide) ?_
  refine nz_new_int (n := 300) X w acw_int (by decide) (nle rfl) (nle rfl) dX11_init_118 (fun q12 H w => ?_)
  have w : WN D A H0 ([(h0, .inr (11, [.int (i2 0), .int (i2 0), .ref q1, .ref q2, .ref q3, .ref q4, .ref q5, .ref q6, .ref q7, .ref q8, .ref q9, .ref q10, .int (i2 2), .ref q11, .int (i2 0), .int (i2 0), .null, .null, .null, .null, .null, .int (i2 0), .int (i2 0), .null, .null, .null, .null, .null, .null, .null, .null, .null, .int (i2 0), .int (i2 0), .int (i2 0), .int (i2 0), .int (i2 0), .int (i2 0), .int (i2 0), .null, .null, .null, .null, .int (i2 0), .int (i2 0), .int (i2 0), .int (i2 0), .null, .int (i2 0), .null, .int (i2 0), .null, .null, .null, .null, .int (i2 0), .int (i2 0), .null, .null, .null, .null])), arC q1 (aC 0) 14 0, arC q2 (aC 0) 14 0, arC q3 (aC 0) 14 0, arC q4 (aC 0) 14 0, arC q5 (aC 0) 14 0, arC q6 (aC 0) 42 0, arC q7 (aC 0) 196 0, arC q8 (aC 1) 196 0, arC q9 (aC 1) 196 0, arC q10 (aC 1) 42 0, arC q11 (aC 0) 3 14, arC q12 (aC 0) 300 0]) H _ := w
  refine nz_putf (q0 := 0) X hin w rfl cp_X11_48 (nlt_ rfl) rfl rfl dX11_init_120 (fun H locs w => ?_)
  have w : WN D A H0 ([(h0, .inr (11, [.int (i2 0), .int (i2 0), .ref q1, .ref q2, .ref q3, .ref q4, .ref q5, .ref q6, .ref q7, .ref q8, .ref q9, .ref q10, .int (i2 2), .ref q11, .int (i2 0), .int (i2 0), .ref q12, .null, .null, .null, .null, .int (i2 0), .int (i2 0), .null, .null, .null, .null, .null, .null, .null, .null, .null, .int (i2 0), .int (i2 0), .int (i2 0), .int (i2 0), .int (i2 0), .int (i2 0), .int (i2 0), .null, .null, .null, .null, .int (i2 0), .int (i2 0), .int (i2 0), .int (i2 0), .null, .int (i2 0), .null, .int (i2 0), .null, .null, .null, .null, .int (i2 0), .int (i2 0), .null, .null, .null, .null])), arC q1 (aC 0) 14 0, arC q2 (aC 0) 14 0, arC q3 (aC 0) 14 0, arC q4 (aC 0) 14 0, arC q5 (aC 0) 14 0, arC q6 (aC 0) 42 0, arC q7 (aC 0) 196 0, arC q8 (aC 1) 196 0, arC q9 (aC 1) 196 0, arC q10 (aC 1) 42 0, arC q11 (aC 0) 3 14, arC q12 (aC 0) 300 0]) H _ := w
  refine lv_aload_n hx hb dX11_init_123 rfl (lv_at hl 0 rfl) ?_
  refine nz_sipush X dX11_init_124 (by decide) ?_
  refine nz_new_int (n := 300) X w acw_int (by decide) (nle rfl) (nle rfl) dX11_init_127 (fun q13 H w => ?_)
  have w : WN D A H0 ([(h0, .inr (11, [.int (i2 0), .int (i2 0), .ref q1, .ref q2, .ref q3, .ref q4, .ref q5, .ref q6, .ref q7, .ref q8, .ref q9, .ref q10, .int (i2 2), .ref q11, .int (i2 0), .int (i2 0), .ref q12, .null, .null, .null, .null, .int (i2 0), .int (i2 0), .null, .null, .null, .null, .null, .null, .null, .null, .null, .int (i2 0), .int (i2 0), .int (i2 0), .int (i2 0), .int (i2 0), .int (i2 0), .int (i2 0), .null, .null, .null, .null, .int (i2 0), .int (i2 0), .int (i2 0), .int (i2 0), .null, .int (i2 0), .null, .int (i2 0), .null, .null, .null, .null, .int (i2 0), .int (i2 0), .null, .null, .null, .null])), arC q1 (aC 0) 14 0, arC q2 (aC 0) 14 0, arC q3 (aC 0) 14 0, arC q4 (aC 0) 14 0, arC q5 (aC 0) 14 0, arC q6 (aC 0) 42 0, arC q7 (aC 0) 196 0, arC q8 (aC 1) 196 0, arC q9 (aC 1) 196 0, arC q10 (aC 1) 42 0, arC q11 (aC 0) 3 14, arC q12 (aC 0) 300 0, arC q13 (aC 0) 300 0]) H _ := w
  refine nz_putf (q0 := 0) X hin w rfl cp_X11_51 (nlt_ rfl) rfl rfl dX11_init_129 (fun H locs w => ?_)
  have w : WN D A H0 ([(h0, .inr (11, [.int (i2 0), .int (i2 0), .ref q1, .ref q2, .ref q3, .ref q4, .ref q5, .ref q6, .ref q7, .ref q8, .ref q9, .ref q10, .int (i2 2), .ref q11, .int (i2 0), .int (i2 0), .ref q12, .ref q13, .null, .null, .null, .int (i2 0), .int (i2 0), .null, .null, .null, .null, .null, .null, .null, .null, .null, .int (i2 0), .int (i2 0), .int (i2 0), .int (i2 0), .int (i2 0), .int (i2 0), .int (i2 0), .null, .null, .null, .null, .int (i2 0), .int (i2 0), .int (i2 0), .int (i2 0), .null, .int (i2 0), .null, .int (i2 0), .null, .null, .null, .null, .int (i2 0), .int (i2 0), .null, .null, .null, .null])), arC q1 (aC 0) 14 0, arC q2 (aC 0) 14 0, arC q3 (aC 0) 14 0, arC q4 (aC 0) 14 0, arC q5 (aC 0) 14 0, arC q6 (aC 0) 42 0, arC q7 (aC 0) 196 0, arC q8 (aC 1) 196 0, arC q9 (aC 1) 196 0, arC q10 (aC 1) 42 0, arC q11 (aC 0) 3 14, arC q12 (aC 0) 300 0, arC q13 (aC 0) 300 0]) H _ := w
  refine lv_aload_n hx hb dX11_init_132 rfl (lv_at hl 0 rfl) ?_
  refine nz_sipush X dX11_init_133 (by decide) ?_
  refine nz_new_int (n := 300) X w acw_int (by decide) (nle rfl) (nle rfl) dX11_init_136 (fun q14 H w => ?_)
  have w : WN D A H0 ([(h0, .inr (11, [.int (i2 0), .int (i2 0), .ref q1, .ref q2, .ref q3, .ref q4, .ref q5, .ref q6, .ref q7, .ref q8, .ref q9, .ref q10, .int (i2 2), .ref q11, .int (i2 0), .int (i2 0), .ref q12, .ref q13, .null, .null, .null, .int (i2 0), .int (i2 0), .null, .null, .null, .null, .null, .null, .null, .null, .null, .int (i2 0), .int (i2 0), .int (i2 0), .int (i2 0), .int (i2 0), .int (i2 0), .int (i2 0), .null, .null, .null, .null, .int (i2 0), .int (i2 0), .int (i2 0), .int (i2 0), .null, .int (i2 0), .null, .int (i2 0), .null, .null, .null, .null, .int (i2 0), .int (i2 0), .null, .null, .null, .null])), arC q1 (aC 0) 14 0, arC q2 (aC 0) 14 0, arC q3 (aC 0) 14 0, arC q4 (aC 0) 14 0, arC q5 (aC 0) 14 0, arC q6 (aC 0) 42 0, arC q7 (aC 0) 196 0, arC q8 (aC 1) 196 0, arC q9 (aC 1) 196 0, arC q10 (aC 1) 42 0, arC q11 (aC 0) 3 14, arC q12 (aC 0) 300 0, arC q13 (aC 0) 300 0, arC q14 (aC 0) 300 0]) H _ := w
  refine nz_putf (q0 := 0) X hin w rfl cp_X11_54 (nlt_ rfl) rfl rfl dX11_init_138 (fun H locs w => ?_)
  have w : WN D A H0 ([(h0, .inr (11, [.int (i2 0), .int (i2 0), .ref q1, .ref q2, .ref q3, .ref q4, .ref q5, .ref q6, .ref q7, .ref q8, .ref q9, .ref q10, .int (i2 2), .ref q11, .int (i2 0), .int (i2 0), .ref q12, .ref q13, .ref q14, .null, .null, .int (i2 0), .int (i2 0), .null, .null, .null, .null, .null, .null, .null, .null, .null, .int (i2 0), .int (i2 0), .int (i2 0), .int (i2 0), .int (i2 0), .int (i2 0), .int (i2 0), .null, .null, .null, .null, .int (i2 0), .int (i2 0), .int (i2 0), .int (i2 0), .null, .int (i2 0), .null, .int (i2 0), .null, .null, .null, .null, .int (i2 0), .int (i2 0), .null, .null, .null, .null])), arC q1 (aC 0) 14 0, arC q2 (aC 0) 14 0, arC q3 (aC 0) 14 0, arC q4 (aC 0) 14 0, arC q5 (aC 0) 14 0, arC q6 (aC 0) 42 0, arC q7 (aC 0) 196 0, arC q8 (aC 1) 196 0, arC q9 (aC 1) 196 0, arC q10 (aC 1) 42 0, arC q11 (aC 0) 3 14, arC q12 (aC 0) 300 0, arC q13 (aC 0) 300 0, arC q14 (aC 0) 300 0]) H _ := w
  refine lv_aload_n hx hb dX11_init_141 rfl (lv_at hl 0 rfl) ?_
  refine nz_sipush X dX11_init_142 (by decide) ?_
  refine nz_new_int (n := 300) X w acw_int (by decide) (nle rfl) (nle rfl) dX11_init_145 (fun q15 H w => ?_)
  have w : WN D A H0 ([(h0, .inr (11, [.int (i2 0), .int (i2 0), .ref q1, .ref q2, .ref q3, .ref q4, .ref q5, .ref q6, .ref q7, .ref q8, .ref q9, .ref q10, .int (i2 2), .ref q11, .int (i2 0), .int (i2 0), .ref q12, .ref q13, .ref q14, .null, .null, .int (i2 0), .int (i2 0), .null, .null, .null, .null, .null, .null, .null, .null, .null, .int (i2 0), .int (i2 0), .int (i2 0), .int (i2 0), .int (i2 0), .int (i2 0), .int (i2 0), .null, .null, .null, .null, .int (i2 0), .int (i2 0), .int (i2 0), .int (i2 0), .null, .int (i2 0), .null, .int (i2 0), .null, .null, .null, .null, .int (i2 0), .int (i2 0), .null, .null, .null, .null])), arC q1 (aC 0) 14 0, arC q2 (aC 0) 14 0, arC q3 (aC 0) 14 0, arC q4 (aC 0) 14 0, arC q5 (aC 0) 14 0, arC q6 (aC 0) 42 0, arC q7 (aC 0) 196 0, arC q8 (aC 1) 196 0, arC q9 (aC 1) 196 0, arC q10 (aC 1) 42 0, arC q11 (aC 0) 3 14, arC q12 (aC 0) 300 0, arC q13 (aC 0) 300 0, arC q14 (aC 0) 300 0, arC q15 (aC 0) 300 0]) H _ := w
  refine nz_putf (q0 := 0) X hin w rfl cp_X11_57 (nlt_ rfl) rfl rfl dX11_init_147 (fun H locs w => ?_)
  have w : WN D A H0 ([(h0, .inr (11, [.int (i2 0), .int (i2 0), .ref q1, .ref q2, .ref q3, .ref q4, .ref q5, .ref q6, .ref q7, .ref q8, .ref q9, .ref q10, .int (i2 2), .ref q11, .int (i2 0), .int (i2 0), .ref q12, .ref q13, .ref q14, .ref q15, .null, .int (i2 0), .int (i2 0), .null, .null, .null, .null, .null, .null, .null, .null, .null, .int (i2 0), .int (i2 0), .int (i2 0), .int (i2 0), .int (i2 0), .int (i2 0), .int (i2 0), .null, .null, .null, .null, .int (i2 0), .int (i2 0), .int (i2 0), .int (i2 0), .null, .int (i2 0), .null, .int (i2 0), .null, .null, .null, .null, .int (i2 0), .int (i2 0), .null, .null, .null, .null])), arC q1 (aC 0) 14 0, arC q2 (aC 0) 14 0, arC q3 (aC 0) 14 0, arC q4 (aC 0) 14 0, arC q5 (aC 0) 14 0, arC q6 (aC 0) 42 0, arC q7 (aC 0) 196 0, arC q8 (aC 1) 196 0, arC q9 (aC 1) 196 0, arC q10 (aC 1) 42 0, arC q11 (aC 0) 3 14, arC q12 (aC 0) 300 0, arC q13 (aC 0) 300 0, arC q14 (aC 0) 300 0, arC q15 (aC 0) 300 0]) H _ := w
  refine lv_aload_n hx hb dX11_init_150 rfl (lv_at hl 0 rfl) ?_
  refine nz_sipush X dX11_init_151 (by decide) ?_
  refine nz_new_int (n := 300) X w acw_int (by decide) (nle rfl) (nle rfl) dX11_init_154 (fun q16 H w => ?_)
  have w : WN D A H0 ([(h0, .inr (11, [.int (i2 0), .int (i2 0), .ref q1, .ref q2, .ref q3, .ref q4, .ref q5, .ref q6, .ref q7, .ref q8, .ref q9, .ref q10, .int (i2 2), .ref q11, .int (i2 0), .int (i2 0), .ref q12, .ref q13, .ref q14, .ref q15, .null, .int (i2 0), .int (i2 0), .null, .null, .null, .null, .null, .null, .null, .null, .null, .int (i2 0), .int (i2 0), .int (i2 0), .int (i2 0), .int (i2 0), .int (i2 0), .int (i2 0), .null, .null, .null, .null, .int (i2 0), .int (i2 0), .int (i2 0), .int (i2 0), .null, .int (i2 0), .null, .int (i2 0), .null, .null, .null, .null, .int (i2 0), .int (i2 0), .null, .null, .null, .null])), arC q1 (aC 0) 14 0, arC q2 (aC 0) 14 0, arC q3 (aC 0) 14 0, arC q4 (aC 0) 14 0, arC q5 (aC 0) 14 0, arC q6 (aC 0) 42 0, arC q7 (aC 0) 196 0, arC q8 (aC 1) 196 0, arC q9 (aC 1) 196 0, arC q10 (aC 1) 42 0, arC q11 (aC 0) 3 14, arC q12 (aC 0) 300 0, arC q13 (aC 0) 300 0, arC q14 (aC 0) 300 0, arC q15 (aC 0) 300 0, arC q16 (aC 0) 300 0]) H _ := w
  refine nz_putf (q0 := 0) X hin w rfl cp_X11_60 (nlt_ rfl) rfl rfl dX11_init_156 (fun H locs w => ?_)
  have w : WN D A H0 ([(h0, .inr (11, [.int (i2 0), .int (i2 0), .ref q1, .ref q2, .ref q3, .ref q4, .ref q5, .ref q6, .ref q7, .ref q8, .ref q9, .ref q10, .int (i2 2), .ref q11, .int (i2 0), .int (i2 0), .ref q12, .ref q13, .ref q14, .ref q15, .ref q16, .int (i2 0), .int (i2 0), .null, .null, .null, .null, .null, .null, .null, .null, .null, .int (i2 0), .int (i2 0), .int (i2 0), .int (i2 0), .int (i2 0), .int (i2 0), .int (i2 0), .null, .null, .null, .null, .int (i2 0), .int (i2 0), .int (i2 0), .int (i2 0), .null, .int (i2 0), .null, .int (i2 0), .null, .null, .null, .null, .int (i2 0), .int (i2 0), .null, .null, .null, .null])), arC q1 (aC 0) 14 0, arC q2 (aC 0) 14 0, arC q3 (aC 0) 14 0, arC q4 (aC 0) 14 0, arC q5 (aC 0) 14 0, arC q6 (aC 0) 42 0, arC q7 (aC 0) 196 0, arC q8 (aC 1) 196 0, arC q9 (aC 1) 196 0, arC q10 (aC 1) 42 0, arC q11 (aC 0) 3 14, arC q12 (aC 0) 300 0, arC q13 (aC 0) 300 0, arC q14 (aC 0) 300 0, arC q15 (aC 0) 300 0, arC q16 (aC 0) 300 0]) H _ := w
  refine lv_aload_n hx hb dX11_init_159 rfl (lv_at hl 0 rfl) ?_
  refine nz_bipush X dX11_init_160 (by decide) ?_
  refine nz_new_int (n := 32) X w acw_int (by decide) (nle rfl) (nle rfl) dX11_init_162 (fun q17 H w => ?_)
  have w : WN D A H0 ([(h0, .inr (11, [.int (i2 0), .int (i2 0), .ref q1, .ref q2, .ref q3, .ref q4, .ref q5, .ref q6, .ref q7, .ref q8, .ref q9, .ref q10, .int (i2 2), .ref q11, .int (i2 0), .int (i2 0), .ref q12, .ref q13, .ref q14, .ref q15, .ref q16, .int (i2 0), .int (i2 0), .null, .null, .null, .null, .null, .null, .null, .null, .null, .int (i2 0), .int (i2 0), .int (i2 0), .int (i2 0), .int (i2 0), .int (i2 0), .int (i2 0), .null, .null, .null, .null, .int (i2 0), .int (i2 0), .int (i2 0), .int (i2 0), .null, .int (i2 0), .null, .int (i2 0), .null, .null, .null, .null, .int (i2 0), .int (i2 0), .null, .null, .null, .null])), arC q1 (aC 0) 14 0, arC q2 (aC 0) 14 0, arC q3 (aC 0) 14 0, arC q4 (aC 0) 14 0, arC q5 (aC 0) 14 0, arC q6 (aC 0) 42 0, arC q7 (aC 0) 196 0, arC q8 (aC 1) 196 0, arC q9 (aC 1) 196 0, arC q10 (aC 1) 42 0, arC q11 (aC 0) 3 14, arC q12 (aC 0) 300 0, arC q13 (aC 0) 300 0, arC q14 (aC 0) 300 0, arC q15 (aC 0) 300 0, arC q16 (aC 0) 300 0, arC q17 (aC 0) 32 0]) H _ := w
  refine nz_putf (q0 := 0) X hin w rfl cp_X11_63 (nlt_ rfl) rfl rfl dX11_init_164 (fun H locs w => ?_)
  have w : WN D A H0 ([(h0, .inr (11, [.int (i2 0), .int (i2 0), .ref q1, .ref q2, .ref q3, .ref q4, .ref q5, .ref q6, .ref q7, .ref q8, .ref q9, .ref q10, .int (i2 2), .ref q11, .int (i2 0), .int (i2 0), .ref q12, .ref q13, .ref q14, .ref q15, .ref q16, .int (i2 0), .int (i2 0), .ref q17, .null, .null, .null, .null, .null, .null, .null, .null, .int (i2 0), .int (i2 0), .int (i2 0), .int (i2 0), .int (i2 0), .int (i2 0), .int (i2 0), .null, .null, .null, .null, .int (i2 0), .int (i2 0), .int (i2 0), .int (i2 0), .null, .int (i2 0), .null, .int (i2 0), .null, .null, .null, .null, .int (i2 0), .int (i2 0), .null, .null, .null, .null])), arC q1 (aC 0) 14 0, arC q2 (aC 0) 14 0, arC q3 (aC 0) 14 0, arC q4 (aC 0) 14 0, arC q5 (aC 0) 14 0, arC q6 (aC 0) 42 0, arC q7 (aC 0) 196 0, arC q8 (aC 1) 196 0, arC q9 (aC 1) 196 0, arC q10 (aC 1) 42 0, arC q11 (aC 0) 3 14, arC q12 (aC 0) 300 0, arC q13 (aC 0) 300 0, arC q14 (aC 0) 300 0, arC q15 (aC 0) 300 0, arC q16 (aC 0) 300 0, arC q17 (aC 0) 32 0]) H _ := w
  refine lv_aload_n hx hb dX11_init_167 rfl (lv_at hl 0 rfl) ?_
  refine nz_bipush X dX11_init_168 (by decide) ?_
  refine nz_new_int (n := 32) X w acw_int (by decide) (nle rfl) (nle rfl) dX11_init_170 (fun q18 H w => ?_)
  have w : WN D A H0 ([(h0, .inr (11, [.int (i2 0), .int (i2 0), .ref q1, .ref q2, .ref q3, .ref q4, .ref q5, .ref q6, .ref q7, .ref q8, .ref q9, .ref q10, .int (i2 2), .ref q11, .int (i2 0), .int (i2 0), .ref q12, .ref q13, .ref q14, .ref q15, .ref q16, .int (i2 0), .int (i2 0), .ref q17, .null, .null, .null, .null, .null, .null, .null, .null, .int (i2 0), .int (i2 0), .int (i2 0), .int (i2 0), .int (i2 0), .int (i2 0), .int (i2 0), .null, .null, .null, .null, .int (i2 0), .int (i2 0), .int (i2 0), .int (i2 0), .null, .int (i2 0), .null, .int (i2 0), .null, .null, .null, .null, .int (i2 0), .int (i2 0), .null, .null, .null, .null])), arC q1 (aC 0) 14 0, arC q2 (aC 0) 14 0, arC q3 (aC 0) 14 0, arC q4 (aC 0) 14 0, arC q5 (aC 0) 14 0, arC q6 (aC 0) 42 0, arC q7 (aC 0) 196 0, arC q8 (aC 1) 196 0, arC q9 (aC 1) 196 0, arC q10 (aC 1) 42 0, arC q11 (aC 0) 3 14, arC q12 (aC 0) 300 0, arC q13 (aC 0) 300 0, arC q14 (aC 0) 300 0, arC q15 (aC 0) 300 0, arC q16 (aC 0) 300 0, arC q17 (aC 0) 32 0, arC q18 (aC 0) 32 0]) H _ := w
  refine nz_putf (q0 := 0) X hin w rfl cp_X11_66 (nlt_ rfl) rfl rfl dX11_init_172 (fun H locs w => ?_)
  have w : WN D A H0 ([(h0, .inr (11, [.int (i2 0), .int (i2 0), .ref q1, .ref q2, .ref q3, .ref q4, .ref q5, .ref q6, .ref q7, .ref q8, .ref q9, .ref q10, .int (i2 2), .ref q11, .int (i2 0), .int (i2 0), .ref q12, .ref q13, .ref q14, .ref q15, .ref q16, .int (i2 0), .int (i2 0), .ref q17, .ref q18, .null, .null, .null, .null, .null, .null, .null, .int (i2 0), .int (i2 0), .int (i2 0), .int (i2 0), .int (i2 0), .int (i2 0), .int (i2 0), .null, .null, .null, .null, .int (i2 0), .int (i2 0), .int (i2 0), .int (i2 0), .null, .int (i2 0), .null, .int (i2 0), .null, .null, .null, .null, .int (i2 0), .int (i2 0), .null, .null, .null, .null])), arC q1 (aC 0) 14 0, arC q2 (aC 0) 14 0, arC q3 (aC 0) 14 0, arC q4 (aC 0) 14 0, arC q5 (aC 0) 14 0, arC q6 (aC 0) 42 0, arC q7 (aC 0) 196 0, arC q8 (aC 1) 196 0, arC q9 (aC 1) 196 0, arC q10 (aC 1) 42 0, arC q11 (aC 0) 3 14, arC q12 (aC 0) 300 0, arC q13 (aC 0) 300 0, arC q14 (aC 0) 300 0, arC q15 (aC 0) 300 0, arC q16 (aC 0) 300 0, arC q17 (aC 0) 32 0, arC q18 (aC 0) 32 0]) H _ := w
  refine lv_aload_n hx hb dX11_init_175 rfl (lv_at hl 0 rfl) ?_
  refine nz_bipush X dX11_init_176 (by decide) ?_
  refine nz_new_int (n := 32) X w acw_int (by decide) (nle rfl) (nle rfl) dX11_init_178 (fun q19 H w => ?_)
  have w : WN D A H0 ([(h0, .inr (11, [.int (i2 0), .int (i2 0), .ref q1, .ref q2, .ref q3, .ref q4, .ref q5, .ref q6, .ref q7, .ref q8, .ref q9, .ref q10, .int (i2 2), .ref q11, .int (i2 0), .int (i2 0), .ref q12, .ref q13, .ref q14, .ref q15, .ref q16, .int (i2 0), .int (i2 0), .ref q17, .ref q18, .null, .null, .null, .null, .null, .null, .null, .int (i2 0), .int (i2 0), .int (i2 0), .int (i2 0), .int (i2 0), .int (i2 0), .int (i2 0), .null, .null, .null, .null, .int (i2 0), .int (i2 0), .int (i2 0), .int (i2 0), .null, .int (i2 0), .null, .int (i2 0), .null, .null, .null, .null, .int (i2 0), .int (i2 0), .null, .null, .null, .null])), arC q1 (aC 0) 14 0, arC q2 (aC 0) 14 0, arC q3 (aC 0) 14 0, arC q4 (aC 0) 14 0, arC q5 (aC 0) 14 0, arC q6 (aC 0) 42 0, arC q7 (aC 0) 196 0, arC q8 (aC 1) 196 0, arC q9 (aC 1) 196 0, arC q10 (aC 1) 42 0, arC q11 (aC 0) 3 14, arC q12 (aC 0) 300 0, arC q13 (aC 0) 300 0, arC q14 (aC 0) 300 0, arC q15 (aC 0) 300 0, arC q16 (aC 0) 300 0, arC q17 (aC 0) 32 0, arC q18 (aC 0) 32 0, arC q19 (aC 0) 32 0]) H _ := w
  refine nz_putf (q0 := 0) X hin w rfl cp_X11_69 (nlt_ rfl) rfl rfl dX11_init_180 (fun H locs w => ?_)
  have w : WN D A H0 ([(h0, .inr (11, [.int (i2 0), .int (i2 0), .ref q1, .ref q2, .ref q3, .ref q4, .ref q5, .ref q6, .ref q7, .ref q8, .ref q9, .ref q10, .int (i2 2), .ref q11, .int (i2 0), .int (i2 0), .ref q12, .ref q13, .ref q14, .ref q15, .ref q16, .int (i2 0), .int (i2 0), .ref q17, .ref q18, .ref q19, .null, .null, .null, .null, .null, .null, .int (i2 0), .int (i2 0), .int (i2 0), .int (i2 0), .int (i2 0), .int (i2 0), .int (i2 0), .null, .null, .null, .null, .int (i2 0), .int (i2 0), .int (i2 0), .int (i2 0), .null, .int (i2 0), .null, .int (i2 0), .null, .null, .null, .null, .int (i2 0), .int (i2 0), .null, .null, .null, .null])), arC q1 (aC 0) 14 0, arC q2 (aC 0) 14 0, arC q3 (aC 0) 14 0, arC q4 (aC 0) 14 0, arC q5 (aC 0) 14 0, arC q6 (aC 0) 42 0, arC q7 (aC 0) 196 0, arC q8 (aC 1) 196 0, arC q9 (aC 1) 196 0, arC q10 (aC 1) 42 0, arC q11 (aC 0) 3 14, arC q12 (aC 0) 300 0, arC q13 (aC 0) 300 0, arC q14 (aC 0) 300 0, arC q15 (aC 0) 300 0, arC q16 (aC 0) 300 0, arC q17 (aC 0) 32 0, arC q18 (aC 0) 32 0, arC q19 (aC 0) 32 0]) H _ := w
  refine lv_aload_n hx hb dX11_init_183 rfl (lv_at hl 0 rfl) ?_
  refine nz_bipush X dX11_init_184 (by decide) ?_
  refine nz_new_int (n := 64) X w acw_int (by decide) (nle rfl) (nle rfl) dX11_init_186 (fun q20 H w => ?_)
  have w : WN D A H0 ([(h0, .inr (11, [.int (i2 0), .int (i2 0), .ref q1, .ref q2, .ref q3, .ref q4, .ref q5, .ref q6, .ref q7, .ref q8, .ref q9, .ref q10, .int (i2 2), .ref q11, .int (i2 0), .int (i2 0), .ref q12, .ref q13, .ref q14, .ref q15, .ref q16, .int (i2 0), .int (i2 0), .ref q17, .ref q18, .ref q19, .null, .null, .null, .null, .null, .null, .int (i2 0), .int (i2 0), .int (i2 0), .int (i2 0), .int (i2 0), .int (i2 0), .int (i2 0), .null, .null, .null, .null, .int (i2 0), .int (i2 0), .int (i2 0), .int (i2 0), .null, .int (i2 0), .null, .int (i2 0), .null, .null, .null, .null, .int (i2 0), .int (i2 0), .null, .null, .null, .null])), arC q1 (aC 0) 14 0, arC q2 (aC 0) 14 0, arC q3 (aC 0) 14 0, arC q4 (aC 0) 14 0, arC q5 (aC 0) 14 0, arC q6 (aC 0) 42 0, arC q7 (aC 0) 196 0, arC q8 (aC 1) 196 0, arC q9 (aC 1) 196 0, arC q10 (aC 1) 42 0, arC q11 (aC 0) 3 14, arC q12 (aC 0) 300 0, arC q13 (aC 0) 300 0, arC q14 (aC 0) 300 0, arC q15 (aC 0) 300 0, arC q16 (aC 0) 300 0, arC q17 (aC 0) 32 0, arC q18 (aC 0) 32 0, arC q19 (aC 0) 32 0, arC q20 (aC 0) 64 0]) H _ := w
  refine nz_putf (q0 := 0) X hin w rfl cp_X11_72 (nlt_ rfl) rfl rfl dX11_init_188 (fun H locs w => ?_)
  have w : WN D A H0 ([(h0, .inr (11, [.int (i2 0), .int (i2 0), .ref q1, .ref q2, .ref q3, .ref q4, .ref q5, .ref q6, .ref q7, .ref q8, .ref q9, .ref q10, .int (i2 2), .ref q11, .int (i2 0), .int (i2 0), .ref q12, .ref q13, .ref q14, .ref q15, .ref q16, .int (i2 0), .int (i2 0), .ref q17, .ref q18, .ref q19, .ref q20, .null, .null, .null, .null, .null, .int (i2 0), .int (i2 0), .int (i2 0), .int (i2 0), .int (i2 0), .int (i2 0), .int (i2 0), .null, .null, .null, .null, .int (i2 0), .int (i2 0), .int (i2 0), .int (i2 0), .null, .int (i2 0), .null, .int (i2 0), .null, .null, .null, .null, .int (i2 0), .int (i2 0), .null, .null, .null, .null])), arC q1 (aC 0) 14 0, arC q2 (aC 0) 14 0, arC q3 (aC 0) 14 0, arC q4 (aC 0) 14 0, arC q5 (aC 0) 14 0, arC q6 (aC 0) 42 0, arC q7 (aC 0) 196 0, arC q8 (aC 1) 196 0, arC q9 (aC 1) 196 0, arC q10 (aC 1) 42 0, arC q11 (aC 0) 3 14, arC q12 (aC 0) 300 0, arC q13 (aC 0) 300 0, arC q14 (aC 0) 300 0, arC q15 (aC 0) 300 0, arC q16 (aC 0) 300 0, arC q17 (aC 0) 32 0, arC q18 (aC 0) 32 0, arC q19 (aC 0) 32 0, arC q20 (aC 0) 64 0]) H _ := w
  refine lv_aload_n hx hb dX11_init_191 rfl (lv_at hl 0 rfl) ?_
  refine nz_sipush X dX11_init_192 (by decide) ?_
  refine nz_new_boolean (n := 256) X w acw_boolean (by decide) (nle rfl) (nle rfl) dX11_init_195 (fun q21 H w => ?_)
  have w : WN D A H0 ([(h0, .inr (11, [.int (i2 0), .int (i2 0), .ref q1, .ref q2, .ref q3, .ref q4, .ref q5, .ref q6, .ref q7, .ref q8, .ref q9, .ref q10, .int (i2 2), .ref q11, .int (i2 0), .int (i2 0), .ref q12, .ref q13, .ref q14, .ref q15, .ref q16, .int (i2 0), .int (i2 0), .ref q17, .ref q18, .ref q19, .ref q20, .null, .null, .null, .null, .null, .int (i2 0), .int (i2 0), .int (i2 0), .int (i2 0), .int (i2 0), .int (i2 0), .int (i2 0), .null, .null, .null, .null, .int (i2 0), .int (i2 0), .int (i2 0), .int (i2 0), .null, .int (i2 0), .null, .int (i2 0), .null, .null, .null, .null, .int (i2 0), .int (i2 0), .null, .null, .null, .null])), arC q1 (aC 0) 14 0, arC q2 (aC 0) 14 0, arC q3 (aC 0) 14 0, arC q4 (aC 0) 14 0, arC q5 (aC 0) 14 0, arC q6 (aC 0) 42 0, arC q7 (aC 0) 196 0, arC q8 (aC 1) 196 0, arC q9 (aC 1) 196 0, arC q10 (aC 1) 42 0, arC q11 (aC 0) 3 14, arC q12 (aC 0) 300 0, arC q13 (aC 0) 300 0, arC q14 (aC 0) 300 0, arC q15 (aC 0) 300 0, arC q16 (aC 0) 300 0, arC q17 (aC 0) 32 0, arC q18 (aC 0) 32 0, arC q19 (aC 0) 32 0, arC q20 (aC 0) 64 0, arC q21 (aC 1) 256 0]) H _ := w
  refine nz_putf (q0 := 0) X hin w rfl cp_X11_75 (nlt_ rfl) rfl rfl dX11_init_197 (fun H locs w => ?_)
  have w : WN D A H0 ([(h0, .inr (11, [.int (i2 0), .int (i2 0), .ref q1, .ref q2, .ref q3, .ref q4, .ref q5, .ref q6, .ref q7, .ref q8, .ref q9, .ref q10, .int (i2 2), .ref q11, .int (i2 0), .int (i2 0), .ref q12, .ref q13, .ref q14, .ref q15, .ref q16, .int (i2 0), .int (i2 0), .ref q17, .ref q18, .ref q19, .ref q20, .ref q21, .null, .null, .null, .null, .int (i2 0), .int (i2 0), .int (i2 0), .int (i2 0), .int (i2 0), .int (i2 0), .int (i2 0), .null, .null, .null, .null, .int (i2 0), .int (i2 0), .int (i2 0), .int (i2 0), .null, .int (i2 0), .null, .int (i2 0), .null, .null, .null, .null, .int (i2 0), .int (i2 0), .null, .null, .null, .null])), arC q1 (aC 0) 14 0, arC q2 (aC 0) 14 0, arC q3 (aC 0) 14 0, arC q4 (aC 0) 14 0, arC q5 (aC 0) 14 0, arC q6 (aC 0) 42 0, arC q7 (aC 0) 196 0, arC q8 (aC 1) 196 0, arC q9 (aC 1) 196 0, arC q10 (aC 1) 42 0, arC q11 (aC 0) 3 14, arC q12 (aC 0) 300 0, arC q13 (aC 0) 300 0, arC q14 (aC 0) 300 0, arC q15 (aC 0) 300 0, arC q16 (aC 0) 300 0, arC q17 (aC 0) 32 0, arC q18 (aC 0) 32 0, arC q19 (aC 0) 32 0, arC q20 (aC 0) 64 0, arC q21 (aC 1) 256 0]) H _ := w
  refine lv_aload_n hx hb dX11_init_200 rfl (lv_at hl 0 rfl) ?_
  refine nz_sipush X dX11_init_201 (by decide) ?_
  refine nz_new_int (n := 256) X w acw_int (by decide) (nle rfl) (nle rfl) dX11_init_204 (fun q22 H w => ?_)
  have w : WN D A H0 ([(h0, .inr (11, [.int (i2 0), .int (i2 0), .ref q1, .ref q2, .ref q3, .ref q4, .ref q5, .ref q6, .ref q7, .ref q8, .ref q9, .ref q10, .int (i2 2), .ref q11, .int (i2 0), .int (i2 0), .ref q12, .ref q13, .ref q14, .ref q15, .ref q16, .int (i2 0), .int (i2 0), .ref q17, .ref q18, .ref q19, .ref q20, .ref q21, .null, .null, .null, .null, .int (i2 0), .int (i2 0), .int (i2 0), .int (i2 0), .int (i2 0), .int (i2 0), .int (i2 0), .null, .null, .null, .null, .int (i2 0), .int (i2 0), .int (i2 0), .int (i2 0), .null, .int (i2 0), .null, .int (i2 0), .null, .null, .null, .null, .int (i2 0), .int (i2 0), .null, .null, .null, .null])), arC q1 (aC 0) 14 0, arC q2 (aC 0) 14 0, arC q3 (aC 0) 14 0, arC q4 (aC 0) 14 0, arC q5 (aC 0) 14 0, arC q6 (aC 0) 42 0, arC q7 (aC 0) 196 0, arC q8 (aC 1) 196 0, arC q9 (aC 1) 196 0, arC q10 (aC 1) 42 0, arC q11 (aC 0) 3 14, arC q12 (aC 0) 300 0, arC q13 (aC 0) 300 0, arC q14 (aC 0) 300 0, arC q15 (aC 0) 300 0, arC q16 (aC 0) 300 0, arC q17 (aC 0) 32 0, arC q18 (aC 0) 32 0, arC q19 (aC 0) 32 0, arC q20 (aC 0) 64 0, arC q21 (aC 1) 256 0, arC q22 (aC 0) 256 0]) H _ := w
  refine nz_putf (q0 := 0) X hin w rfl cp_X11_78 (nlt_ rfl) rfl rfl dX11_init_206 (fun H locs w => ?_)
  have w : WN D A H0 ([(h0, .inr (11, [.int (i2 0), .int (i2 0), .ref q1, .ref q2, .ref q3, .ref q4, .ref q5, .ref q6, .ref q7, .ref q8, .ref q9, .ref q10, .int (i2 2), .ref q11, .int (i2 0), .int (i2 0), .ref q12, .ref q13, .ref q14, .ref q15, .ref q16, .int (i2 0), .int (i2 0), .ref q17, .ref q18, .ref q19, .ref q20, .ref q21, .ref q22, .null, .null, .null, .int (i2 0), .int (i2 0), .int (i2 0), .int (i2 0), .int (i2 0), .int (i2 0), .int (i2 0), .null, .null, .null, .null, .int (i2 0), .int (i2 0), .int (i2 0), .int (i2 0), .null, .int (i2 0), .null, .int (i2 0), .null, .null, .null, .null, .int (i2 0), .int (i2 0), .null, .null, .null, .null])), arC q1 (aC 0) 14 0, arC q2 (aC 0) 14 0, arC q3 (aC 0) 14 0, arC q4 (aC 0) 14 0, arC q5 (aC 0) 14 0, arC q6 (aC 0) 42 0, arC q7 (aC 0) 196 0, arC q8 (aC 1) 196 0, arC q9 (aC 1) 196 0, arC q10 (aC 1) 42 0, arC q11 (aC 0) 3 14, arC q12 (aC 0) 300 0, arC q13 (aC 0) 300 0, arC q14 (aC 0) 300 0, arC q15 (aC 0) 300 0, arC q16 (aC 0) 300 0, arC q17 (aC 0) 32 0, arC q18 (aC 0) 32 0, arC q19 (aC 0) 32 0, arC q20 (aC 0) 64 0, arC q21 (aC 1) 256 0, arC q22 (aC 0) 256 0]) H _ := w
  refine lv_aload_n hx hb dX11_init_209 rfl (lv_at hl 0 rfl) ?_
  refine nz_sipush X dX11_init_210 (by decide) ?_
  refine nz_new_int (n := 256) X w acw_int (by decide) (nle rfl) (nle rfl) dX11_init_213 (fun q23 H w => ?_)
  have w : WN D A H0 ([(h0, .inr (11, [.int (i2 0), .int (i2 0), .ref q1, .ref q2, .ref q3, .ref q4, .ref q5, .ref q6, .ref q7, .ref q8, .ref q9, .ref q10, .int (i2 2), .ref q11, .int (i2 0), .int (i2 0), .ref q12, .ref q13, .ref q14, .ref q15, .ref q16, .int (i2 0), .int (i2 0), .ref q17, .ref q18, .ref q19, .ref q20, .ref q21, .ref q22, .null, .null, .null, .int (i2 0), .int (i2 0), .int (i2 0), .int (i2 0), .int (i2 0), .int (i2 0), .int (i2 0), .null, .null, .null, .null, .int (i2 0), .int (i2 0), .int (i2 0), .int (i2 0), .null, .int (i2 0), .null, .int (i2 0), .null, .null, .null, .null, .int (i2 0), .int (i2 0), .null, .null, .null, .null])), arC q1 (aC 0) 14 0, arC q2 (aC 0) 14 0, arC q3 (aC 0) 14 0, arC q4 (aC 0) 14 0, arC q5 (aC 0) 14 0, arC q6 (aC 0) 42 0, arC q7 (aC 0) 196 0, arC q8 (aC 1) 196 0, arC q9 (aC 1) 196 0, arC q10 (aC 1) 42 0, arC q11 (aC 0) 3 14, arC q12 (aC 0) 300 0, arC q13 (aC 0) 300 0, arC q14 (aC 0) 300 0, arC q15 (aC 0) 300 0, arC q16 (aC 0) 300 0, arC q17 (aC 0) 32 0, arC q18 (aC 0) 32 0, arC q19 (aC 0) 32 0, arC q20 (aC 0) 64 0, arC q21 (aC 1) 256 0, arC q22 (aC 0) 256 0, arC q23 (aC 0) 256 0]) H _ := w
  refine nz_putf (q0 := 0) X hin w rfl cp_X11_81 (nlt_ rfl) rfl rfl dX11_init_215 (fun H locs w => ?_)
  have w : WN D A H0 ([(h0, .inr (11, [.int (i2 0), .int (i2 0), .ref q1, .ref q2, .ref q3, .ref q4, .ref q5, .ref q6, .ref q7, .ref q8, .ref q9, .ref q10, .int (i2 2), .ref q11, .int (i2 0), .int (i2 0), .ref q12, .ref q13, .ref q14, .ref q15, .ref q16, .int (i2 0), .int (i2 0), .ref q17, .ref q18, .ref q19, .ref q20, .ref q21, .ref q22, .ref q23, .null, .null, .int (i2 0), .int (i2 0), .int (i2 0), .int (i2 0), .int (i2 0), .int (i2 0), .int (i2 0), .null, .null, .null, .null, .int (i2 0), .int (i2 0), .int (i2 0), .int (i2 0), .null, .int (i2 0), .null, .int (i2 0), .null, .null, .null, .null, .int (i2 0), .int (i2 0), .null, .null, .null, .null])), arC q1 (aC 0) 14 0, arC q2 (aC 0) 14 0, arC q3 (aC 0) 14 0, arC q4 (aC 0) 14 0, arC q5 (aC 0) 14 0, arC q6 (aC 0) 42 0, arC q7 (aC 0) 196 0, arC q8 (aC 1) 196 0, arC q9 (aC 1) 196 0, arC q10 (aC 1) 42 0, arC q11 (aC 0) 3 14, arC q12 (aC 0) 300 0, arC q13 (aC 0) 300 0, arC q14 (aC 0) 300 0, arC q15 (aC 0) 300 0, arC q16 (aC 0) 300 0, arC q17 (aC 0) 32 0, arC q18 (aC 0) 32 0, arC q19 (aC 0) 32 0, arC q20 (aC 0) 64 0, arC q21 (aC 1) 256 0, arC q22 (aC 0) 256 0, arC q23 (aC 0) 256 0]) H _ := w
  refine lv_aload_n hx hb dX11_init_218 rfl (lv_at hl 0 rfl) ?_
  refine nz_sipush X dX11_init_219 (by decide) ?_
  refine nz_new_int (n := 256) X w acw_int (by decide) (nle rfl) (nle rfl) dX11_init_222 (fun q24 H w => ?_)
  have w : WN D A H0 ([(h0, .inr (11, [.int (i2 0), .int (i2 0), .ref q1, .ref q2, .ref q3, .ref q4, .ref q5, .ref q6, .ref q7, .ref q8, .ref q9, .ref q10, .int (i2 2), .ref q11, .int (i2 0), .int (i2 0), .ref q12, .ref q13, .ref q14, .ref q15, .ref q16, .int (i2 0), .int (i2 0), .ref q17, .ref q18, .ref q19, .ref q20, .ref q21, .ref q22, .ref q23, .null, .null, .int (i2 0), .int (i2 0), .int (i2 0), .int (i2 0), .int (i2 0), .int (i2 0), .int (i2 0), .null, .null, .null, .null, .int (i2 0), .int (i2 0), .int (i2 0), .int (i2 0), .null, .int (i2 0), .null, .int (i2 0), .null, .null, .null, .null, .int (i2 0), .int (i2 0), .null, .null, .null, .null])), arC q1 (aC 0) 14 0, arC q2 (aC 0) 14 0, arC q3 (aC 0) 14 0, arC q4 (aC 0) 14 0, arC q5 (aC 0) 14 0, arC q6 (aC 0) 42 0, arC q7 (aC 0) 196 0, arC q8 (aC 1) 196 0, arC q9 (aC 1) 196 0, arC q10 (aC 1) 42 0, arC q11 (aC 0) 3 14, arC q12 (aC 0) 300 0, arC q13 (aC 0) 300 0, arC q14 (aC 0) 300 0, arC q15 (aC 0) 300 0, arC q16 (aC 0) 300 0, arC q17 (aC 0) 32 0, arC q18 (aC 0) 32 0, arC q19 (aC 0) 32 0, arC q20 (aC 0) 64 0, arC q21 (aC 1) 256 0, arC q22 (aC 0) 256 0, arC q23 (aC 0) 256 0, arC q24 (aC 0) 256 0]) H _ := w
  refine nz_putf (q0 := 0) X hin w rfl cp_X11_84 (nlt_ rfl) rfl rfl dX11_init_224 (fun H locs w => ?_)
  have w : WN D A H0 ([(h0, .inr (11, [.int (i2 0), .int (i2 0), .ref q1, .ref q2, .ref q3, .ref q4, .ref q5, .ref q6, .ref q7, .ref q8, .ref q9, .ref q10, .int (i2 2), .ref q11, .int (i2 0), .int (i2 0), .ref q12, .ref q13, .ref q14, .ref q15, .ref q16, .int (i2 0), .int (i2 0), .ref q17, .ref q18, .ref q19, .ref q20, .ref q21, .ref q22, .ref q23, .ref q24, .null, .int (i2 0), .int (i2 0), .int (i2 0), .int (i2 0), .int (i2 0), .int (i2 0), .int (i2 0), .null, .null, .null, .null, .int (i2 0), .int (i2 0), .int (i2 0), .int (i2 0), .null, .int (i2 0), .null, .int (i2 0), .null, .null, .null, .null, .int (i2 0), .int (i2 0), .null, .null, .null, .null])), arC q1 (aC 0) 14 0, arC q2 (aC 0) 14 0, arC q3 (aC 0) 14 0, arC q4 (aC 0) 14 0, arC q5 (aC 0) 14 0, arC q6 (aC 0) 42 0, arC q7 (aC 0) 196 0, arC q8 (aC 1) 196 0, arC q9 (aC 1) 196 0, arC q10 (aC 1) 42 0, arC q11 (aC 0) 3 14, arC q12 (aC 0) 300 0, arC q13 (aC 0) 300 0, arC q14 (aC 0) 300 0, arC q15 (aC 0) 300 0, arC q16 (aC 0) 300 0, arC q17 (aC 0) 32 0, arC q18 (aC 0) 32 0, arC q19 (aC 0) 32 0, arC q20 (aC 0) 64 0, arC q21 (aC 1) 256 0, arC q22 (aC 0) 256 0, arC q23 (aC 0) 256 0, arC q24 (aC 0) 256 0]) H _ := w
  refine lv_aload_n hx hb dX11_init_227 rfl (lv_at hl 0 rfl) ?_
  refine nz_sipush X dX11_init_228 (by decide) ?_
  refine nz_new_byte (n := 400) X w acw_byte (by decide) (nle rfl) (nle rfl) dX11_init_231 (fun q25 H w => ?_)
  have w : WN D A H0 ([(h0, .inr (11, [.int (i2 0), .int (i2 0), .ref q1, .ref q2, .ref q3, .ref q4, .ref q5, .ref q6, .ref q7, .ref q8, .ref q9, .ref q10, .int (i2 2), .ref q11, .int (i2 0), .int (i2 0), .ref q12, .ref q13, .ref q14, .ref q15, .ref q16, .int (i2 0), .int (i2 0), .ref q17, .ref q18, .ref q19, .ref q20, .ref q21, .ref q22, .ref q23, .ref q24, .null, .int (i2 0), .int (i2 0), .int (i2 0), .int (i2 0), .int (i2 0), .int (i2 0), .int (i2 0), .null, .null, .null, .null, .int (i2 0), .int (i2 0), .int (i2 0), .int (i2 0), .null, .int (i2 0), .null, .int (i2 0), .null, .null, .null, .null, .int (i2 0), .int (i2 0), .null, .null, .null, .null])), arC q1 (aC 0) 14 0, arC q2 (aC 0) 14 0, arC q3 (aC 0) 14 0, arC q4 (aC 0) 14 0, arC q5 (aC 0) 14 0, arC q6 (aC 0) 42 0, arC q7 (aC 0) 196 0, arC q8 (aC 1) 196 0, arC q9 (aC 1) 196 0, arC q10 (aC 1) 42 0, arC q11 (aC 0) 3 14, arC q12 (aC 0) 300 0, arC q13 (aC 0) 300 0, arC q14 (aC 0) 300 0, arC q15 (aC 0) 300 0, arC q16 (aC 0) 300 0, arC q17 (aC 0) 32 0, arC q18 (aC 0) 32 0, arC q19 (aC 0) 32 0, arC q20 (aC 0) 64 0, arC q21 (aC 1) 256 0, arC q22 (aC 0) 256 0, arC q23 (aC 0) 256 0, arC q24 (aC 0) 256 0, arC q25 (aC 3) 400 0]) H _ := w
  refine nz_putf (q0 := 0) X hin w rfl cp_X11_87 (nlt_ rfl) rfl rfl dX11_init_233 (fun H locs w => ?_)
  have w : WN D A H0 ([(h0, .inr (11, [.int (i2 0), .int (i2 0), .ref q1, .ref q2, .ref q3, .ref q4, .ref q5, .ref q6, .ref q7, .ref q8, .ref q9, .ref q10, .int (i2 2), .ref q11, .int (i2 0), .int (i2 0), .ref q12, .ref q13, .ref q14, .ref q15, .ref q16, .int (i2 0), .int (i2 0), .ref q17, .ref q18, .ref q19, .ref q20, .ref q21, .ref q22, .ref q23, .ref q24, .ref q25, .int (i2 0), .int (i2 0), .int (i2 0), .int (i2 0), .int (i2 0), .int (i2 0), .int (i2 0), .null, .null, .null, .null, .int (i2 0), .int (i2 0), .int (i2 0), .int (i2 0), .null, .int (i2 0), .null, .int (i2 0), .null, .null, .null, .null, .int (i2 0), .int (i2 0), .null, .null, .null, .null])), arC q1 (aC 0) 14 0, arC q2 (aC 0) 14 0, arC q3 (aC 0) 14 0, arC q4 (aC 0) 14 0, arC q5 (aC 0) 14 0, arC q6 (aC 0) 42 0, arC q7 (aC 0) 196 0, arC q8 (aC 1) 196 0, arC q9 (aC 1) 196 0, arC q10 (aC 1) 42 0, arC q11 (aC 0) 3 14, arC q12 (aC 0) 300 0, arC q13 (aC 0) 300 0, arC q14 (aC 0) 300 0, arC q15 (aC 0) 300 0, arC q16 (aC 0) 300 0, arC q17 (aC 0) 32 0, arC q18 (aC 0) 32 0, arC q19 (aC 0) 32 0, arC q20 (aC 0) 64 0, arC q21 (aC 1) 256 0, arC q22 (aC 0) 256 0, arC q23 (aC 0) 256 0, arC q24 (aC 0) 256 0, arC q25 (aC 3) 400 0]) H _ := w
  refine lv_aload_n hx hb dX11_init_236 rfl (lv_at hl 0 rfl) ?_
  refine nz_iconst X dX11_init_237 ?_
  refine nz_put (q0 := 0) X w rfl cp_X11_91 (nlt_ rfl) rfl rfl dX11_init_238 (fun H locs w => ?_)
  have w : WN D A H0 ([(h0, .inr (11, [.int (i2 0), .int (i2 0), .ref q1, .ref q2, .ref q3, .ref q4, .ref q5, .ref q6, .ref q7, .ref q8, .ref q9, .ref q10, .int (i2 2), .ref q11, .int (i2 0), .int (i2 0), .ref q12, .ref q13, .ref q14, .ref q15, .ref q16, .int (i2 0), .int (i2 0), .ref q17, .ref q18, .ref q19, .ref q20, .ref q21, .ref q22, .ref q23, .ref q24, .ref q25, .int (i2 0), .int (i2 0), .int (i2 (-1)), .int (i2 0), .int (i2 0), .int (i2 0), .int (i2 0), .null, .null, .null, .null, .int (i2 0), .int (i2 0), .int (i2 0), .int (i2 0), .null, .int (i2 0), .null, .int (i2 0), .null, .null, .null, .null, .int (i2 0), .int (i2 0), .null, .null, .null, .null])), arC q1 (aC 0) 14 0, arC q2 (aC 0) 14 0, arC q3 (aC 0) 14 0, arC q4 (aC 0) 14 0, arC q5 (aC 0) 14 0, arC q6 (aC 0) 42 0, arC q7 (aC 0) 196 0, arC q8 (aC 1) 196 0, arC q9 (aC 1) 196 0, arC q10 (aC 1) 42 0, arC q11 (aC 0) 3 14, arC q12 (aC 0) 300 0, arC q13 (aC 0) 300 0, arC q14 (aC 0) 300 0, arC q15 (aC 0) 300 0, arC q16 (aC 0) 300 0, arC q17 (aC 0) 32 0, arC q18 (aC 0) 32 0, arC q19 (aC 0) 32 0, arC q20 (aC 0) 64 0, arC q21 (aC 1) 256 0, arC q22 (aC 0) 256 0, arC q23 (aC 0) 256 0, arC q24 (aC 0) 256 0, arC q25 (aC 3) 400 0]) H _ := w
  refine lv_aload_n hx hb dX11_init_241 rfl (lv_at hl 0 rfl) ?_
  refine nz_bipush X dX11_init_242 (by decide) ?_
  refine nz_new_int (n := 98) X w acw_int (by decide) (nle rfl) (nle rfl) dX11_init_244 (fun q26 H w => ?_)
  have w : WN D A H0 ([(h0, .inr (11, [.int (i2 0), .int (i2 0), .ref q1, .ref q2, .ref q3, .ref q4, .ref q5, .ref q6, .ref q7, .ref q8, .ref q9, .ref q10, .int (i2 2), .ref q11, .int (i2 0), .int (i2 0), .ref q12, .ref q13, .ref q14, .ref q15, .ref q16, .int (i2 0), .int (i2 0), .ref q17, .ref q18, .ref q19, .ref q20, .ref q21, .ref q22, .ref q23, .ref q24, .ref q25, .int (i2 0), .int (i2 0), .int (i2 (-1)), .int (i2 0), .int (i2 0), .int (i2 0), .int (i2 0), .null, .null, .null, .null, .int (i2 0), .int (i2 0), .int (i2 0), .int (i2 0), .null, .int (i2 0), .null, .int (i2 0), .null, .null, .null, .null, .int (i2 0), .int (i2 0), .null, .null, .null, .null])), arC q1 (aC 0) 14 0, arC q2 (aC 0) 14 0, arC q3 (aC 0) 14 0, arC q4 (aC 0) 14 0, arC q5 (aC 0) 14 0, arC q6 (aC 0) 42 0, arC q7 (aC 0) 196 0, arC q8 (aC 1) 196 0, arC q9 (aC 1) 196 0, arC q10 (aC 1) 42 0, arC q11 (aC 0) 3 14, arC q12 (aC 0) 300 0, arC q13 (aC 0) 300 0, arC q14 (aC 0) 300 0, arC q15 (aC 0) 300 0, arC q16 (aC 0) 300 0, arC q17 (aC 0) 32 0, arC q18 (aC 0) 32 0, arC q19 (aC 0) 32 0, arC q20 (aC 0) 64 0, arC q21 (aC 1) 256 0, arC q22 (aC 0) 256 0, arC q23 (aC 0) 256 0, arC q24 (aC 0) 256 0, arC q25 (aC 3) 400 0, arC q26 (aC 0) 98 0]) H _ := w
  refine nz_putf (q0 := 0) X hin w rfl cp_X11_94 (nlt_ rfl) rfl rfl dX11_init_246 (fun H locs w => ?_)
  have w : WN D A H0 ([(h0, .inr (11, [.int (i2 0), .int (i2 0), .ref q1, .ref q2, .ref q3, .ref q4, .ref q5, .ref q6, .ref q7, .ref q8, .ref q9, .ref q10, .int (i2 2), .ref q11, .int (i2 0), .int (i2 0), .ref q12, .ref q13, .ref q14, .ref q15, .ref q16, .int (i2 0), .int (i2 0), .ref q17, .ref q18, .ref q19, .ref q20, .ref q21, .ref q22, .ref q23, .ref q24, .ref q25, .int (i2 0), .int (i2 0), .int (i2 (-1)), .int (i2 0), .int (i2 0), .int (i2 0), .int (i2 0), .ref q26, .null, .null, .null, .int (i2 0), .int (i2 0), .int (i2 0), .int (i2 0), .null, .int (i2 0), .null, .int (i2 0), .null, .null, .null, .null, .int (i2 0), .int (i2 0), .null, .null, .null, .null])), arC q1 (aC 0) 14 0, arC q2 (aC 0) 14 0, arC q3 (aC 0) 14 0, arC q4 (aC 0) 14 0, arC q5 (aC 0) 14 0, arC q6 (aC 0) 42 0, arC q7 (aC 0) 196 0, arC q8 (aC 1) 196 0, arC q9 (aC 1) 196 0, arC q10 (aC 1) 42 0, arC q11 (aC 0) 3 14, arC q12 (aC 0) 300 0, arC q13 (aC 0) 300 0, arC q14 (aC 0) 300 0, arC q15 (aC 0) 300 0, arC q16 (aC 0) 300 0, arC q17 (aC 0) 32 0, arC q18 (aC 0) 32 0, arC q19 (aC 0) 32 0, arC q20 (aC 0) 64 0, arC q21 (aC 1) 256 0, arC q22 (aC 0) 256 0, arC q23 (aC 0) 256 0, arC q24 (aC 0) 256 0, arC q25 (aC 3) 400 0, arC q26 (aC 0) 98 0]) H _ := w
  refine lv_aload_n hx hb dX11_init_249 rfl (lv_at hl 0 rfl) ?_
  refine nz_sipush X dX11_init_250 (by decide) ?_
  refine nz_new_boolean (n := 448) X w acw_boolean (by decide) (nle rfl) (nle rfl) dX11_init_253 (fun q27 H w => ?_)
  have w : WN D A H0 ([(h0, .inr (11, [.int (i2 0), .int (i2 0), .ref q1, .ref q2, .ref q3, .ref q4, .ref q5, .ref q6, .ref q7, .ref q8, .ref q9, .ref q10, .int (i2 2), .ref q11, .int (i2 0), .int (i2 0), .ref q12, .ref q13, .ref q14, .ref q15, .ref q16, .int (i2 0), .int (i2 0), .ref q17, .ref q18, .ref q19, .ref q20, .ref q21, .ref q22, .ref q23, .ref q24, .ref q25, .int (i2 0), .int (i2 0), .int (i2 (-1)), .int (i2 0), .int (i2 0), .int (i2 0), .int (i2 0), .ref q26, .null, .null, .null, .int (i2 0), .int (i2 0), .int (i2 0), .int (i2 0), .null, .int (i2 0), .null, .int (i2 0), .null, .null, .null, .null, .int (i2 0), .int (i2 0), .null, .null, .null, .null])), arC q1 (aC 0) 14 0, arC q2 (aC 0) 14 0, arC q3 (aC 0) 14 0, arC q4 (aC 0) 14 0, arC q5 (aC 0) 14 0, arC q6 (aC 0) 42 0, arC q7 (aC 0) 196 0, arC q8 (aC 1) 196 0, arC q9 (aC 1) 196 0, arC q10 (aC 1) 42 0, arC q11 (aC 0) 3 14, arC q12 (aC 0) 300 0, arC q13 (aC 0) 300 0, arC q14 (aC 0) 300 0, arC q15 (aC 0) 300 0, arC q16 (aC 0) 300 0, arC q17 (aC 0) 32 0, arC q18 (aC 0) 32 0, arC q19 (aC 0) 32 0, arC q20 (aC 0) 64 0, arC q21 (aC 1) 256 0, arC q22 (aC 0) 256 0, arC q23 (aC 0) 256 0, arC q24 (aC 0) 256 0, arC q25 (aC 3) 400 0, arC q26 (aC 0) 98 0, arC q27 (aC 1) 448 0]) H _ := w
  refine nz_putf (q0 := 0) X hin w rfl cp_X11_97 (nlt_ rfl) rfl rfl dX11_init_255 (fun H locs w => ?_)
  have w : WN D A H0 ([(h0, .inr (11, [.int (i2 0), .int (i2 0), .ref q1, .ref q2, .ref q3, .ref q4, .ref q5, .ref q6, .ref q7, .ref q8, .ref q9, .ref q10, .int (i2 2), .ref q11, .int (i2 0), .int (i2 0), .ref q12, .ref q13, .ref q14, .ref q15, .ref q16, .int (i2 0), .int (i2 0), .ref q17, .ref q18, .ref q19, .ref q20, .ref q21, .ref q22, .ref q23, .ref q24, .ref q25, .int (i2 0), .int (i2 0), .int (i2 (-1)), .int (i2 0), .int (i2 0), .int (i2 0), .int (i2 0), .ref q26, .ref q27, .null, .null, .int (i2 0), .int (i2 0), .int (i2 0), .int (i2 0), .null, .int (i2 0), .null, .int (i2 0), .null, .null, .null, .null, .int (i2 0), .int (i2 0), .null, .null, .null, .null])), arC q1 (aC 0) 14 0, arC q2 (aC 0) 14 0, arC q3 (aC 0) 14 0, arC q4 (aC 0) 14 0, arC q5 (aC 0) 14 0, arC q6 (aC 0) 42 0, arC q7 (aC 0) 196 0, arC q8 (aC 1) 196 0, arC q9 (aC 1) 196 0, arC q10 (aC 1) 42 0, arC q11 (aC 0) 3 14, arC q12 (aC 0) 300 0, arC q13 (aC 0) 300 0, arC q14 (aC 0) 300 0, arC q15 (aC 0) 300 0, arC q16 (aC 0) 300 0, arC q17 (aC 0) 32 0, arC q18 (aC 0) 32 0, arC q19 (aC 0) 32 0, arC q20 (aC 0) 64 0, arC q21 (aC 1) 256 0, arC q22 (aC 0) 256 0, arC q23 (aC 0) 256 0, arC q24 (aC 0) 256 0, arC q25 (aC 3) 400 0, arC q26 (aC 0) 98 0, arC q27 (aC 1) 448 0]) H _ := w
  refine lv_aload_n hx hb dX11_init_258 rfl (lv_at hl 0 rfl) ?_
  refine nz_bipush X dX11_init_259 (by decide) ?_
  refine nz_new_int (n := 14) X w acw_int (by decide) (nle rfl) (nle rfl) dX11_init_261 (fun q28 H w => ?_)
  have w : WN D A H0 ([(h0, .inr (11, [.int (i2 0), .int (i2 0), .ref q1, .ref q2, .ref q3, .ref q4, .ref q5, .ref q6, .ref q7, .ref q8, .ref q9, .ref q10, .int (i2 2), .ref q11, .int (i2 0), .int (i2 0), .ref q12, .ref q13, .ref q14, .ref q15, .ref q16, .int (i2 0), .int (i2 0), .ref q17, .ref q18, .ref q19, .ref q20, .ref q21, .ref q22, .ref q23, .ref q24, .ref q25, .int (i2 0), .int (i2 0), .int (i2 (-1)), .int (i2 0), .int (i2 0), .int (i2 0), .int (i2 0), .ref q26, .ref q27, .null, .null, .int (i2 0), .int (i2 0), .int (i2 0), .int (i2 0), .null, .int (i2 0), .null, .int (i2 0), .null, .null, .null, .null, .int (i2 0), .int (i2 0), .null, .null, .null, .null])), arC q1 (aC 0) 14 0, arC q2 (aC 0) 14 0, arC q3 (aC 0) 14 0, arC q4 (aC 0) 14 0, arC q5 (aC 0) 14 0, arC q6 (aC 0) 42 0, arC q7 (aC 0) 196 0, arC q8 (aC 1) 196 0, arC q9 (aC 1) 196 0, arC q10 (aC 1) 42 0, arC q11 (aC 0) 3 14, arC q12 (aC 0) 300 0, arC q13 (aC 0) 300 0, arC q14 (aC 0) 300 0, arC q15 (aC 0) 300 0, arC q16 (aC 0) 300 0, arC q17 (aC 0) 32 0, arC q18 (aC 0) 32 0, arC q19 (aC 0) 32 0, arC q20 (aC 0) 64 0, arC q21 (aC 1) 256 0, arC q22 (aC 0) 256 0, arC q23 (aC 0) 256 0, arC q24 (aC 0) 256 0, arC q25 (aC 3) 400 0, arC q26 (aC 0) 98 0, arC q27 (aC 1) 448 0, arC q28 (aC 0) 14 0]) H _ := w
  refine nz_putf (q0 := 0) X hin w rfl cp_X11_100 (nlt_ rfl) rfl rfl dX11_init_263 (fun H locs w => ?_)
  have w : WN D A H0 ([(h0, .inr (11, [.int (i2 0), .int (i2 0), .ref q1, .ref q2, .ref q3, .ref q4, .ref q5, .ref q6, .ref q7, .ref q8, .ref q9, .ref q10, .int (i2 2), .ref q11, .int (i2 0), .int (i2 0), .ref q12, .ref q13, .ref q14, .ref q15, .ref q16, .int (i2 0), .int (i2 0), .ref q17, .ref q18, .ref q19, .ref q20, .ref q21, .ref q22, .ref q23, .ref q24, .ref q25, .int (i2 0), .int (i2 0), .int (i2 (-1)), .int (i2 0), .int (i2 0), .int (i2 0), .int (i2 0), .ref q26, .ref q27, .ref q28, .null, .int (i2 0), .int (i2 0), .int (i2 0), .int (i2 0), .null, .int (i2 0), .null, .int (i2 0), .null, .null, .null, .null, .int (i2 0), .int (i2 0), .null, .null, .null, .null])), arC q1 (aC 0) 14 0, arC q2 (aC 0) 14 0, arC q3 (aC 0) 14 0, arC q4 (aC 0) 14 0, arC q5 (aC 0) 14 0, arC q6 (aC 0) 42 0, arC q7 (aC 0) 196 0, arC q8 (aC 1) 196 0, arC q9 (aC 1) 196 0, arC q10 (aC 1) 42 0, arC q11 (aC 0) 3 14, arC q12 (aC 0) 300 0, arC q13 (aC 0) 300 0, arC q14 (aC 0) 300 0, arC q15 (aC 0) 300 0, arC q16 (aC 0) 300 0, arC q17 (aC 0) 32 0, arC q18 (aC 0) 32 0, arC q19 (aC 0) 32 0, arC q20 (aC 0) 64 0, arC q21 (aC 1) 256 0, arC q22 (aC 0) 256 0, arC q23 (aC 0) 256 0, arC q24 (aC 0) 256 0, arC q25 (aC 3) 400 0, arC q26 (aC 0) 98 0, arC q27 (aC 1) 448 0, arC q28 (aC 0) 14 0]) H _ := w
  refine lv_aload_n hx hb dX11_init_266 rfl (lv_at hl 0 rfl) ?_
  refine nz_bipush X dX11_init_267 (by decide) ?_
  refine nz_new_int (n := 14) X w acw_int (by decide) (nle rfl) (nle rfl) dX11_init_269 (fun q29 H w => ?_)
  have w : WN D A H0 ([(h0, .inr (11, [.int (i2 0), .int (i2 0), .ref q1, .ref q2, .ref q3, .ref q4, .ref q5, .ref q6, .ref q7, .ref q8, .ref q9, .ref q10, .int (i2 2), .ref q11, .int (i2 0), .int (i2 0), .ref q12, .ref q13, .ref q14, .ref q15, .ref q16, .int (i2 0), .int (i2 0), .ref q17, .ref q18, .ref q19, .ref q20, .ref q21, .ref q22, .ref q23, .ref q24, .ref q25, .int (i2 0), .int (i2 0), .int (i2 (-1)), .int (i2 0), .int (i2 0), .int (i2 0), .int (i2 0), .ref q26, .ref q27, .ref q28, .null, .int (i2 0), .int (i2 0), .int (i2 0), .int (i2 0), .null, .int (i2 0), .null, .int (i2 0), .null, .null, .null, .null, .int (i2 0), .int (i2 0), .null, .null, .null, .null])), arC q1 (aC 0) 14 0, arC q2 (aC 0) 14 0, arC q3 (aC 0) 14 0, arC q4 (aC 0) 14 0, arC q5 (aC 0) 14 0, arC q6 (aC 0) 42 0, arC q7 (aC 0) 196 0, arC q8 (aC 1) 196 0, arC q9 (aC 1) 196 0, arC q10 (aC 1) 42 0, arC q11 (aC 0) 3 14, arC q12 (aC 0) 300 0, arC q13 (aC 0) 300 0, arC q14 (aC 0) 300 0, arC q15 (aC 0) 300 0, arC q16 (aC 0) 300 0, arC q17 (aC 0) 32 0, arC q18 (aC 0) 32 0, arC q19 (aC 0) 32 0, arC q20 (aC 0) 64 0, arC q21 (aC 1) 256 0, arC q22 (aC 0) 256 0, arC q23 (aC 0) 256 0, arC q24 (aC 0) 256 0, arC q25 (aC 3) 400 0, arC q26 (aC 0) 98 0, arC q27 (aC 1) 448 0, arC q28 (aC 0) 14 0, arC q29 (aC 0) 14 0]) H _ := w
  refine nz_putf (q0 := 0) X hin w rfl cp_X11_103 (nlt_ rfl) rfl rfl dX11_init_271 (fun H locs w => ?_)
  have w : WN D A H0 ([(h0, .inr (11, [.int (i2 0), .int (i2 0), .ref q1, .ref q2, .ref q3, .ref q4, .ref q5, .ref q6, .ref q7, .ref q8, .ref q9, .ref q10, .int (i2 2), .ref q11, .int (i2 0), .int (i2 0), .ref q12, .ref q13, .ref q14, .ref q15, .ref q16, .int (i2 0), .int (i2 0), .ref q17, .ref q18, .ref q19, .ref q20, .ref q21, .ref q22, .ref q23, .ref q24, .ref q25, .int (i2 0), .int (i2 0), .int (i2 (-1)), .int (i2 0), .int (i2 0), .int (i2 0), .int (i2 0), .ref q26, .ref q27, .ref q28, .ref q29, .int (i2 0), .int (i2 0), .int (i2 0), .int (i2 0), .null, .int (i2 0), .null, .int (i2 0), .null, .null, .null, .null, .int (i2 0), .int (i2 0), .null, .null, .null, .null])), arC q1 (aC 0) 14 0, arC q2 (aC 0) 14 0, arC q3 (aC 0) 14 0, arC q4 (aC 0) 14 0, arC q5 (aC 0) 14 0, arC q6 (aC 0) 42 0, arC q7 (aC 0) 196 0, arC q8 (aC 1) 196 0, arC q9 (aC 1) 196 0, arC q10 (aC 1) 42 0, arC q11 (aC 0) 3 14, arC q12 (aC 0) 300 0, arC q13 (aC 0) 300 0, arC q14 (aC 0) 300 0, arC q15 (aC 0) 300 0, arC q16 (aC 0) 300 0, arC q17 (aC 0) 32 0, arC q18 (aC 0) 32 0, arC q19 (aC 0) 32 0, arC q20 (aC 0) 64 0, arC q21 (aC 1) 256 0, arC q22 (aC 0) 256 0, arC q23 (aC 0) 256 0, arC q24 (aC 0) 256 0, arC q25 (aC 3) 400 0, arC q26 (aC 0) 98 0, arC q27 (aC 1) 448 0, arC q28 (aC 0) 14 0, arC q29 (aC 0) 14 0]) H _ := w
  refine lv_aload_n hx hb dX11_init_274 rfl (lv_at hl 0 rfl) ?_
  refine nz_bipush X dX11_init_275 (by decide) ?_
  refine nz_new_int (n := 14) X w acw_int (by decide) (nle rfl) (nle rfl) dX11_init_277 (fun q30 H w => ?_)
  have w : WN D A H0 ([(h0, .inr (11, [.int (i2 0), .int (i2 0), .ref q1, .ref q2, .ref q3, .ref q4, .ref q5, .ref q6, .ref q7, .ref q8, .ref q9, .ref q10, .int (i2 2), .ref q11, .int (i2 0), .int (i2 0), .ref q12, .ref q13, .ref q14, .ref q15, .ref q16, .int (i2 0), .int (i2 0), .ref q17, .ref q18, .ref q19, .ref q20, .ref q21, .ref q22, .ref q23, .ref q24, .ref q25, .int (i2 0), .int (i2 0), .int (i2 (-1)), .int (i2 0), .int (i2 0), .int (i2 0), .int (i2 0), .ref q26, .ref q27, .ref q28, .ref q29, .int (i2 0), .int (i2 0), .int (i2 0), .int (i2 0), .null, .int (i2 0), .null, .int (i2 0), .null, .null, .null, .null, .int (i2 0), .int (i2 0), .null, .null, .null, .null])), arC q1 (aC 0) 14 0, arC q2 (aC 0) 14 0, arC q3 (aC 0) 14 0, arC q4 (aC 0) 14 0, arC q5 (aC 0) 14 0, arC q6 (aC 0) 42 0, arC q7 (aC 0) 196 0, arC q8 (aC 1) 196 0, arC q9 (aC 1) 196 0, arC q10 (aC 1) 42 0, arC q11 (aC 0) 3 14, arC q12 (aC 0) 300 0, arC q13 (aC 0) 300 0, arC q14 (aC 0) 300 0, arC q15 (aC 0) 300 0, arC q16 (aC 0) 300 0, arC q17 (aC 0) 32 0, arC q18 (aC 0) 32 0, arC q19 (aC 0) 32 0, arC q20 (aC 0) 64 0, arC q21 (aC 1) 256 0, arC q22 (aC 0) 256 0, arC q23 (aC 0) 256 0, arC q24 (aC 0) 256 0, arC q25 (aC 3) 400 0, arC q26 (aC 0) 98 0, arC q27 (aC 1) 448 0, arC q28 (aC 0) 14 0, arC q29 (aC 0) 14 0, arC q30 (aC 0) 14 0]) H _ := w
  refine nz_putf (q0 := 0) X hin w rfl cp_X11_106 (nlt_ rfl) rfl rfl dX11_init_279 (fun H locs w => ?_)
  have w : WN D A H0 ([(h0, .inr (11, [.int (i2 0), .int (i2 0), .ref q1, .ref q2, .ref q3, .ref q4, .ref q5, .ref q6, .ref q7, .ref q8, .ref q9, .ref q10, .int (i2 2), .ref q11, .int (i2 0), .int (i2 0), .ref q12, .ref q13, .ref q14, .ref q15, .ref q16, .int (i2 0), .int (i2 0), .ref q17, .ref q18, .ref q19, .ref q20, .ref q21, .ref q22, .ref q23, .ref q24, .ref q25, .int (i2 0), .int (i2 0), .int (i2 (-1)), .int (i2 0), .int (i2 0), .int (i2 0), .int (i2 0), .ref q26, .ref q27, .ref q28, .ref q29, .int (i2 0), .int (i2 0), .int (i2 0), .int (i2 0), .ref q30, .int (i2 0), .null, .int (i2 0), .null, .null, .null, .null, .int (i2 0), .int (i2 0), .null, .null, .null, .null])), arC q1 (aC 0) 14 0, arC q2 (aC 0) 14 0, arC q3 (aC 0) 14 0, arC q4 (aC 0) 14 0, arC q5 (aC 0) 14 0, arC q6 (aC 0) 42 0, arC q7 (aC 0) 196 0, arC q8 (aC 1) 196 0, arC q9 (aC 1) 196 0, arC q10 (aC 1) 42 0, arC q11 (aC 0) 3 14, arC q12 (aC 0) 300 0, arC q13 (aC 0) 300 0, arC q14 (aC 0) 300 0, arC q15 (aC 0) 300 0, arC q16 (aC 0) 300 0, arC q17 (aC 0) 32 0, arC q18 (aC 0) 32 0, arC q19 (aC 0) 32 0, arC q20 (aC 0) 64 0, arC q21 (aC 1) 256 0, arC q22 (aC 0) 256 0, arC q23 (aC 0) 256 0, arC q24 (aC 0) 256 0, arC q25 (aC 3) 400 0, arC q26 (aC 0) 98 0, arC q27 (aC 1) 448 0, arC q28 (aC 0) 14 0, arC q29 (aC 0) 14 0, arC q30 (aC 0) 14 0]) H _ := w
  refine lv_aload_n hx hb dX11_init_282 rfl (lv_at hl 0 rfl) ?_
  refine nz_iconst X dX11_init_283 ?_
  refine nz_put (q0 := 0) X w rfl cp_X11_109 (nlt_ rfl) rfl rfl dX11_init_284 (fun H locs w => ?_)
  have w : WN D A H0 ([(h0, .inr (11, [.int (i2 0), .int (i2 0), .ref q1, .ref q2, .ref q3, .ref q4, .ref q5, .ref q6, .ref q7, .ref q8, .ref q9, .ref q10, .int (i2 2), .ref q11, .int (i2 0), .int (i2 0), .ref q12, .ref q13, .ref q14, .ref q15, .ref q16, .int (i2 0), .int (i2 0), .ref q17, .ref q18, .ref q19, .ref q20, .ref q21, .ref q22, .ref q23, .ref q24, .ref q25, .int (i2 0), .int (i2 0), .int (i2 (-1)), .int (i2 0), .int (i2 0), .int (i2 0), .int (i2 0), .ref q26, .ref q27, .ref q28, .ref q29, .int (i2 0), .int (i2 0), .int (i2 0), .int (i2 0), .ref q30, .int (i2 (-1)), .null, .int (i2 0), .null, .null, .null, .null, .int (i2 0), .int (i2 0), .null, .null, .null, .null])), arC q1 (aC 0) 14 0, arC q2 (aC 0) 14 0, arC q3 (aC 0) 14 0, arC q4 (aC 0) 14 0, arC q5 (aC 0) 14 0, arC q6 (aC 0) 42 0, arC q7 (aC 0) 196 0, arC q8 (aC 1) 196 0, arC q9 (aC 1) 196 0, arC q10 (aC 1) 42 0, arC q11 (aC 0) 3 14, arC q12 (aC 0) 300 0, arC q13 (aC 0) 300 0, arC q14 (aC 0) 300 0, arC q15 (aC 0) 300 0, arC q16 (aC 0) 300 0, arC q17 (aC 0) 32 0, arC q18 (aC 0) 32 0, arC q19 (aC 0) 32 0, arC q20 (aC 0) 64 0, arC q21 (aC 1) 256 0, arC q22 (aC 0) 256 0, arC q23 (aC 0) 256 0, arC q24 (aC 0) 256 0, arC q25 (aC 3) 400 0, arC q26 (aC 0) 98 0, arC q27 (aC 1) 448 0, arC q28 (aC 0) 14 0, arC q29 (aC 0) 14 0, arC q30 (aC 0) 14 0]) H _ := w
  refine lv_aload_n hx hb dX11_init_287 rfl (lv_at hl 0 rfl) ?_
  refine nz_bipush X dX11_init_288 (by decide) ?_
  refine nz_new_boolean (n := 14) X w acw_boolean (by decide) (nle rfl) (nle rfl) dX11_init_290 (fun q31 H w => ?_)
  have w : WN D A H0 ([(h0, .inr (11, [.int (i2 0), .int (i2 0), .ref q1, .ref q2, .ref q3, .ref q4, .ref q5, .ref q6, .ref q7, .ref q8, .ref q9, .ref q10, .int (i2 2), .ref q11, .int (i2 0), .int (i2 0), .ref q12, .ref q13, .ref q14, .ref q15, .ref q16, .int (i2 0), .int (i2 0), .ref q17, .ref q18, .ref q19, .ref q20, .ref q21, .ref q22, .ref q23, .ref q24, .ref q25, .int (i2 0), .int (i2 0), .int (i2 (-1)), .int (i2 0), .int (i2 0), .int (i2 0), .int (i2 0), .ref q26, .ref q27, .ref q28, .ref q29, .int (i2 0), .int (i2 0), .int (i2 0), .int (i2 0), .ref q30, .int (i2 (-1)), .null, .int (i2 0), .null, .null, .null, .null, .int (i2 0), .int (i2 0), .null, .null, .null, .null])), arC q1 (aC 0) 14 0, arC q2 (aC 0) 14 0, arC q3 (aC 0) 14 0, arC q4 (aC 0) 14 0, arC q5 (aC 0) 14 0, arC q6 (aC 0) 42 0, arC q7 (aC 0) 196 0, arC q8 (aC 1) 196 0, arC q9 (aC 1) 196 0, arC q10 (aC 1) 42 0, arC q11 (aC 0) 3 14, arC q12 (aC 0) 300 0, arC q13 (aC 0) 300 0, arC q14 (aC 0) 300 0, arC q15 (aC 0) 300 0, arC q16 (aC 0) 300 0, arC q17 (aC 0) 32 0, arC q18 (aC 0) 32 0, arC q19 (aC 0) 32 0, arC q20 (aC 0) 64 0, arC q21 (aC 1) 256 0, arC q22 (aC 0) 256 0, arC q23 (aC 0) 256 0, arC q24 (aC 0) 256 0, arC q25 (aC 3) 400 0, arC q26 (aC 0) 98 0, arC q27 (aC 1) 448 0, arC q28 (aC 0) 14 0, arC q29 (aC 0) 14 0, arC q30 (aC 0) 14 0, arC q31 (aC 1) 14 0]) H _ := w
  refine nz_putf (q0 := 0) X hin w rfl cp_X11_112 (nlt_ rfl) rfl rfl dX11_init_292 (fun H locs w => ?_)
  have w : WN D A H0 ([(h0, .inr (11, [.int (i2 0), .int (i2 0), .ref q1, .ref q2, .ref q3, .ref q4, .ref q5, .ref q6, .ref q7, .ref q8, .ref q9, .ref q10, .int (i2 2), .ref q11, .int (i2 0), .int (i2 0), .ref q12, .ref q13, .ref q14, .ref q15, .ref q16, .int (i2 0), .int (i2 0), .ref q17, .ref q18, .ref q19, .ref q20, .ref q21, .ref q22, .ref q23, .ref q24, .ref q25, .int (i2 0), .int (i2 0), .int (i2 (-1)), .int (i2 0), .int (i2 0), .int (i2 0), .int (i2 0), .ref q26, .ref q27, .ref q28, .ref q29, .int (i2 0), .int (i2 0), .int (i2 0), .int (i2 0), .ref q30, .int (i2 (-1)), .ref q31, .int (i2 0), .null, .null, .null, .null, .int (i2 0), .int (i2 0), .null, .null, .null, .null])), arC q1 (aC 0) 14 0, arC q2 (aC 0) 14 0, arC q3 (aC 0) 14 0, arC q4 (aC 0) 14 0, arC q5 (aC 0) 14 0, arC q6 (aC 0) 42 0, arC q7 (aC 0) 196 0, arC q8 (aC 1) 196 0, arC q9 (aC 1) 196 0, arC q10 (aC 1) 42 0, arC q11 (aC 0) 3 14, arC q12 (aC 0) 300 0, arC q13 (aC 0) 300 0, arC q14 (aC 0) 300 0, arC q15 (aC 0) 300 0, arC q16 (aC 0) 300 0, arC q17 (aC 0) 32 0, arC q18 (aC 0) 32 0, arC q19 (aC 0) 32 0, arC q20 (aC 0) 64 0, arC q21 (aC 1) 256 0, arC q22 (aC 0) 256 0, arC q23 (aC 0) 256 0, arC q24 (aC 0) 256 0, arC q25 (aC 3) 400 0, arC q26 (aC 0) 98 0, arC q27 (aC 1) 448 0, arC q28 (aC 0) 14 0, arC q29 (aC 0) 14 0, arC q30 (aC 0) 14 0, arC q31 (aC 1) 14 0]) H _ := w
  refine lv_aload_n hx hb dX11_init_295 rfl (lv_at hl 0 rfl) ?_
  refine nz_bipush X dX11_init_296 (by decide) ?_
  refine nz_new_int (n := 6) X w acw_int (by decide) (nle rfl) (nle rfl) dX11_init_298 (fun q32 H w => ?_)
  have w : WN D A H0 ([(h0, .inr (11, [.int (i2 0), .int (i2 0), .ref q1, .ref q2, .ref q3, .ref q4, .ref q5, .ref q6, .ref q7, .ref q8, .ref q9, .ref q10, .int (i2 2), .ref q11, .int (i2 0), .int (i2 0), .ref q12, .ref q13, .ref q14, .ref q15, .ref q16, .int (i2 0), .int (i2 0), .ref q17, .ref q18, .ref q19, .ref q20, .ref q21, .ref q22, .ref q23, .ref q24, .ref q25, .int (i2 0), .int (i2 0), .int (i2 (-1)), .int (i2 0), .int (i2 0), .int (i2 0), .int (i2 0), .ref q26, .ref q27, .ref q28, .ref q29, .int (i2 0), .int (i2 0), .int (i2 0), .int (i2 0), .ref q30, .int (i2 (-1)), .ref q31, .int (i2 0), .null, .null, .null, .null, .int (i2 0), .int (i2 0), .null, .null, .null, .null])), arC q1 (aC 0) 14 0, arC q2 (aC 0) 14 0, arC q3 (aC 0) 14 0, arC q4 (aC 0) 14 0, arC q5 (aC 0) 14 0, arC q6 (aC 0) 42 0, arC q7 (aC 0) 196 0, arC q8 (aC 1) 196 0, arC q9 (aC 1) 196 0, arC q10 (aC 1) 42 0, arC q11 (aC 0) 3 14, arC q12 (aC 0) 300 0, arC q13 (aC 0) 300 0, arC q14 (aC 0) 300 0, arC q15 (aC 0) 300 0, arC q16 (aC 0) 300 0, arC q17 (aC 0) 32 0, arC q18 (aC 0) 32 0, arC q19 (aC 0) 32 0, arC q20 (aC 0) 64 0, arC q21 (aC 1) 256 0, arC q22 (aC 0) 256 0, arC q23 (aC 0) 256 0, arC q24 (aC 0) 256 0, arC q25 (aC 3) 400 0, arC q26 (aC 0) 98 0, arC q27 (aC 1) 448 0, arC q28 (aC 0) 14 0, arC q29 (aC 0) 14 0, arC q30 (aC 0) 14 0, arC q31 (aC 1) 14 0, arC q32 (aC 0) 6 0]) H _ := w
  refine nz_putf (q0 := 0) X hin w rfl cp_X11_115 (nlt_ rfl) rfl rfl dX11_init_300 (fun H locs w => ?_)
  have w : WN D A H0 ([(h0, .inr (11, [.int (i2 0), .int (i2 0), .ref q1, .ref q2, .ref q3, .ref q4, .ref q5, .ref q6, .ref q7, .ref q8, .ref q9, .ref q10, .int (i2 2), .ref q11, .int (i2 0), .int (i2 0), .ref q12, .ref q13, .ref q14, .ref q15, .ref q16, .int (i2 0), .int (i2 0), .ref q17, .ref q18, .ref q19, .ref q20, .ref q21, .ref q22, .ref q23, .ref q24, .ref q25, .int (i2 0), .int (i2 0), .int (i2 (-1)), .int (i2 0), .int (i2 0), .int (i2 0), .int (i2 0), .ref q26, .ref q27, .ref q28, .ref q29, .int (i2 0), .int (i2 0), .int (i2 0), .int (i2 0), .ref q30, .int (i2 (-1)), .ref q31, .int (i2 0), .ref q32, .null, .null, .null, .int (i2 0), .int (i2 0), .null, .null, .null, .null])), arC q1 (aC 0) 14 0, arC q2 (aC 0) 14 0, arC q3 (aC 0) 14 0, arC q4 (aC 0) 14 0, arC q5 (aC 0) 14 0, arC q6 (aC 0) 42 0, arC q7 (aC 0) 196 0, arC q8 (aC 1) 196 0, arC q9 (aC 1) 196 0, arC q10 (aC 1) 42 0, arC q11 (aC 0) 3 14, arC q12 (aC 0) 300 0, arC q13 (aC 0) 300 0, arC q14 (aC 0) 300 0, arC q15 (aC 0) 300 0, arC q16 (aC 0) 300 0, arC q17 (aC 0) 32 0, arC q18 (aC 0) 32 0, arC q19 (aC 0) 32 0, arC q20 (aC 0) 64 0, arC q21 (aC 1) 256 0, arC q22 (aC 0) 256 0, arC q23 (aC 0) 256 0, arC q24 (aC 0) 256 0, arC q25 (aC 3) 400 0, arC q26 (aC 0) 98 0, arC q27 (aC 1) 448 0, arC q28 (aC 0) 14 0, arC q29 (aC 0) 14 0, arC q30 (aC 0) 14 0, arC q31 (aC 1) 14 0, arC q32 (aC 0) 6 0]) H _ := w
  refine lv_aload_n hx hb dX11_init_303 rfl (lv_at hl 0 rfl) ?_
  refine nz_bipush X dX11_init_304 (by decide) ?_
  refine nz_new_int (n := 6) X w acw_int (by decide) (nle rfl) (nle rfl) dX11_init_306 (fun q33 H w => ?_)
  have w : WN D A H0 ([(h0, .inr (11, [.int (i2 0), .int (i2 0), .ref q1, .ref q2, .ref q3, .ref q4, .ref q5, .ref q6, .ref q7, .ref q8, .ref q9, .ref q10, .int (i2 2), .ref q11, .int (i2 0), .int (i2 0), .ref q12, .ref q13, .ref q14, .ref q15, .ref q16, .int (i2 0), .int (i2 0), .ref q17, .ref q18, .ref q19, .ref q20, .ref q21, .ref q22, .ref q23, .ref q24, .ref q25, .int (i2 0), .int (i2 0), .int (i2 (-1)), .int (i2 0), .int (i2 0), .int (i2 0), .int (i2 0), .ref q26, .ref q27, .ref q28, .ref q29, .int (i2 0), .int (i2 0), .int (i2 0), .int (i2 0), .ref q30, .int (i2 (-1)), .ref q31, .int (i2 0), .ref q32, .null, .null, .null, .int (i2 0), .int (i2 0), .null, .null, .null, .null])), arC q1 (aC 0) 14 0, arC q2 (aC 0) 14 0, arC q3 (aC 0) 14 0, arC q4 (aC 0) 14 0, arC q5 (aC 0) 14 0, arC q6 (aC 0) 42 0, arC q7 (aC 0) 196 0, arC q8 (aC 1) 196 0, arC q9 (aC 1) 196 0, arC q10 (aC 1) 42 0, arC q11 (aC 0) 3 14, arC q12 (aC 0) 300 0, arC q13 (aC 0) 300 0, arC q14 (aC 0) 300 0, arC q15 (aC 0) 300 0, arC q16 (aC 0) 300 0, arC q17 (aC 0) 32 0, arC q18 (aC 0) 32 0, arC q19 (aC 0) 32 0, arC q20 (aC 0) 64 0, arC q21 (aC 1) 256 0, arC q22 (aC 0) 256 0, arC q23 (aC 0) 256 0, arC q24 (aC 0) 256 0, arC q25 (aC 3) 400 0, arC q26 (aC 0) 98 0, arC q27 (aC 1) 448 0, arC q28 (aC 0) 14 0, arC q29 (aC 0) 14 0, arC q30 (aC 0) 14 0, arC q31 (aC 1) 14 0, arC q32 (aC 0) 6 0, arC q33 (aC 0) 6 0]) H _ := w
  refine nz_putf (q0 := 0) X hin w rfl cp_X11_118 (nlt_ rfl) rfl rfl dX11_init_308 (fun H locs w => ?_)
  have w : WN D A H0 ([(h0, .inr (11, [.int (i2 0), .int (i2 0), .ref q1, .ref q2, .ref q3, .ref q4, .ref q5, .ref q6, .ref q7, .ref q8, .ref q9, .ref q10, .int (i2 2), .ref q11, .int (i2 0), .int (i2 0), .ref q12, .ref q13, .ref q14, .ref q15, .ref q16, .int (i2 0), .int (i2 0), .ref q17, .ref q18, .ref q19, .ref q20, .ref q21, .ref q22, .ref q23, .ref q24, .ref q25, .int (i2 0), .int (i2 0), .int (i2 (-1)), .int (i2 0), .int (i2 0), .int (i2 0), .int (i2 0), .ref q26, .ref q27, .ref q28, .ref q29, .int (i2 0), .int (i2 0), .int (i2 0), .int (i2 0), .ref q30, .int (i2 (-1)), .ref q31, .int (i2 0), .ref q32, .ref q33, .null, .null, .int (i2 0), .int (i2 0), .null, .null, .null, .null])), arC q1 (aC 0) 14 0, arC q2 (aC 0) 14 0, arC q3 (aC 0) 14 0, arC q4 (aC 0) 14 0, arC q5 (aC 0) 14 0, arC q6 (aC 0) 42 0, arC q7 (aC 0) 196 0, arC q8 (aC 1) 196 0, arC q9 (aC 1) 196 0, arC q10 (aC 1) 42 0, arC q11 (aC 0) 3 14, arC q12 (aC 0) 300 0, arC q13 (aC 0) 300 0, arC q14 (aC 0) 300 0, arC q15 (aC 0) 300 0, arC q16 (aC 0) 300 0, arC q17 (aC 0) 32 0, arC q18 (aC 0) 32 0, arC q19 (aC 0) 32 0, arC q20 (aC 0) 64 0, arC q21 (aC 1) 256 0, arC q22 (aC 0) 256 0, arC q23 (aC 0) 256 0, arC q24 (aC 0) 256 0, arC q25 (aC 3) 400 0, arC q26 (aC 0) 98 0, arC q27 (aC 1) 448 0, arC q28 (aC 0) 14 0, arC q29 (aC 0) 14 0, arC q30 (aC 0) 14 0, arC q31 (aC 1) 14 0, arC q32 (aC 0) 6 0, arC q33 (aC 0) 6 0]) H _ := w
  refine lv_aload_n hx hb dX11_init_311 rfl (lv_at hl 0 rfl) ?_
  refine nz_bipush X dX11_init_312 (by decide) ?_
  refine nz_new_int (n := 14) X w acw_int (by decide) (nle rfl) (nle rfl) dX11_init_314 (fun q34 H w => ?_)
  have w : WN D A H0 ([(h0, .inr (11, [.int (i2 0), .int (i2 0), .ref q1, .ref q2, .ref q3, .ref q4, .ref q5, .ref q6, .ref q7, .ref q8, .ref q9, .ref q10, .int (i2 2), .ref q11, .int (i2 0), .int (i2 0), .ref q12, .ref q13, .ref q14, .ref q15, .ref q16, .int (i2 0), .int (i2 0), .ref q17, .ref q18, .ref q19, .ref q20, .ref q21, .ref q22, .ref q23, .ref q24, .ref q25, .int (i2 0), .int (i2 0), .int (i2 (-1)), .int (i2 0), .int (i2 0), .int (i2 0), .int (i2 0), .ref q26, .ref q27, .ref q28, .ref q29, .int (i2 0), .int (i2 0), .int (i2 0), .int (i2 0), .ref q30, .int (i2 (-1)), .ref q31, .int (i2 0), .ref q32, .ref q33, .null, .null, .int (i2 0), .int (i2 0), .null, .null, .null, .null])), arC q1 (aC 0) 14 0, arC q2 (aC 0) 14 0, arC q3 (aC 0) 14 0, arC q4 (aC 0) 14 0, arC q5 (aC 0) 14 0, arC q6 (aC 0) 42 0, arC q7 (aC 0) 196 0, arC q8 (aC 1) 196 0, arC q9 (aC 1) 196 0, arC q10 (aC 1) 42 0, arC q11 (aC 0) 3 14, arC q12 (aC 0) 300 0, arC q13 (aC 0) 300 0, arC q14 (aC 0) 300 0, arC q15 (aC 0) 300 0, arC q16 (aC 0) 300 0, arC q17 (aC 0) 32 0, arC q18 (aC 0) 32 0, arC q19 (aC 0) 32 0, arC q20 (aC 0) 64 0, arC q21 (aC 1) 256 0, arC q22 (aC 0) 256 0, arC q23 (aC 0) 256 0, arC q24 (aC 0) 256 0, arC q25 (aC 3) 400 0, arC q26 (aC 0) 98 0, arC q27 (aC 1) 448 0, arC q28 (aC 0) 14 0, arC q29 (aC 0) 14 0, arC q30 (aC 0) 14 0, arC q31 (aC 1) 14 0, arC q32 (aC 0) 6 0, arC q33 (aC 0) 6 0, arC q34 (aC 0) 14 0]) H _ := w
  refine nz_putf (q0 := 0) X hin w rfl cp_X11_121 (nlt_ rfl) rfl rfl dX11_init_316 (fun H locs w => ?_)
  have w : WN D A H0 ([(h0, .inr (11, [.int (i2 0), .int (i2 0), .ref q1, .ref q2, .ref q3, .ref q4, .ref q5, .ref q6, .ref q7, .ref q8, .ref q9, .ref q10, .int (i2 2), .ref q11, .int (i2 0), .int (i2 0), .ref q12, .ref q13, .ref q14, .ref q15, .ref q16, .int (i2 0), .int (i2 0), .ref q17, .ref q18, .ref q19, .ref q20, .ref q21, .ref q22, .ref q23, .ref q24, .ref q25, .int (i2 0), .int (i2 0), .int (i2 (-1)), .int (i2 0), .int (i2 0), .int (i2 0), .int (i2 0), .ref q26, .ref q27, .ref q28, .ref q29, .int (i2 0), .int (i2 0), .int (i2 0), .int (i2 0), .ref q30, .int (i2 (-1)), .ref q31, .int (i2 0), .ref q32, .ref q33, .ref q34, .null, .int (i2 0), .int (i2 0), .null, .null, .null, .null])), arC q1 (aC 0) 14 0, arC q2 (aC 0) 14 0, arC q3 (aC 0) 14 0, arC q4 (aC 0) 14 0, arC q5 (aC 0) 14 0, arC q6 (aC 0) 42 0, arC q7 (aC 0) 196 0, arC q8 (aC 1) 196 0, arC q9 (aC 1) 196 0, arC q10 (aC 1) 42 0, arC q11 (aC 0) 3 14, arC q12 (aC 0) 300 0, arC q13 (aC 0) 300 0, arC q14 (aC 0) 300 0, arC q15 (aC 0) 300 0, arC q16 (aC 0) 300 0, arC q17 (aC 0) 32 0, arC q18 (aC 0) 32 0, arC q19 (aC 0) 32 0, arC q20 (aC 0) 64 0, arC q21 (aC 1) 256 0, arC q22 (aC 0) 256 0, arC q23 (aC 0) 256 0, arC q24 (aC 0) 256 0, arC q25 (aC 3) 400 0, arC q26 (aC 0) 98 0, arC q27 (aC 1) 448 0, arC q28 (aC 0) 14 0, arC q29 (aC 0) 14 0, arC q30 (aC 0) 14 0, arC q31 (aC 1) 14 0, arC q32 (aC 0) 6 0, arC q33 (aC 0) 6 0, arC q34 (aC 0) 14 0]) H _ := w
  refine lv_aload_n hx hb dX11_init_319 rfl (lv_at hl 0 rfl) ?_
  refine nz_bipush X dX11_init_320 (by decide) ?_
  refine nz_new_int (n := 14) X w acw_int (by decide) (nle rfl) (nle rfl) dX11_init_322 (fun q35 H w => ?_)
  have w : WN D A H0 ([(h0, .inr (11, [.int (i2 0), .int (i2 0), .ref q1, .ref q2, .ref q3, .ref q4, .ref q5, .ref q6, .ref q7, .ref q8, .ref q9, .ref q10, .int (i2 2), .ref q11, .int (i2 0), .int (i2 0), .ref q12, .ref q13, .ref q14, .ref q15, .ref q16, .int (i2 0), .int (i2 0), .ref q17, .ref q18, .ref q19, .ref q20, .ref q21, .ref q22, .ref q23, .ref q24, .ref q25, .int (i2 0), .int (i2 0), .int (i2 (-1)), .int (i2 0), .int (i2 0), .int (i2 0), .int (i2 0), .ref q26, .ref q27, .ref q28, .ref q29, .int (i2 0), .int (i2 0), .int (i2 0), .int (i2 0), .ref q30, .int (i2 (-1)), .ref q31, .int (i2 0), .ref q32, .ref q33, .ref q34, .null, .int (i2 0), .int (i2 0), .null, .null, .null, .null])), arC q1 (aC 0) 14 0, arC q2 (aC 0) 14 0, arC q3 (aC 0) 14 0, arC q4 (aC 0) 14 0, arC q5 (aC 0) 14 0, arC q6 (aC 0) 42 0, arC q7 (aC 0) 196 0, arC q8 (aC 1) 196 0, arC q9 (aC 1) 196 0, arC q10 (aC 1) 42 0, arC q11 (aC 0) 3 14, arC q12 (aC 0) 300 0, arC q13 (aC 0) 300 0, arC q14 (aC 0) 300 0, arC q15 (aC 0) 300 0, arC q16 (aC 0) 300 0, arC q17 (aC 0) 32 0, arC q18 (aC 0) 32 0, arC q19 (aC 0) 32 0, arC q20 (aC 0) 64 0, arC q21 (aC 1) 256 0, arC q22 (aC 0) 256 0, arC q23 (aC 0) 256 0, arC q24 (aC 0) 256 0, arC q25 (aC 3) 400 0, arC q26 (aC 0) 98 0, arC q27 (aC 1) 448 0, arC q28 (aC 0) 14 0, arC q29 (aC 0) 14 0, arC q30 (aC 0) 14 0, arC q31 (aC 1) 14 0, arC q32 (aC 0) 6 0, arC q33 (aC 0) 6 0, arC q34 (aC 0) 14 0, arC q35 (aC 0) 14 0]) H _ := w
  refine nz_putf (q0 := 0) X hin w rfl cp_X11_124 (nlt_ rfl) rfl rfl dX11_init_324 (fun H locs w => ?_)
  have w : WN D A H0 ([(h0, .inr (11, [.int (i2 0), .int (i2 0), .ref q1, .ref q2, .ref q3, .ref q4, .ref q5, .ref q6, .ref q7, .ref q8, .ref q9, .ref q10, .int (i2 2), .ref q11, .int (i2 0), .int (i2 0), .ref q12, .ref q13, .ref q14, .ref q15, .ref q16, .int (i2 0), .int (i2 0), .ref q17, .ref q18, .ref q19, .ref q20, .ref q21, .ref q22, .ref q23, .ref q24, .ref q25, .int (i2 0), .int (i2 0), .int (i2 (-1)), .int (i2 0), .int (i2 0), .int (i2 0), .int (i2 0), .ref q26, .ref q27, .ref q28, .ref q29, .int (i2 0), .int (i2 0), .int (i2 0), .int (i2 0), .ref q30, .int (i2 (-1)), .ref q31, .int (i2 0), .ref q32, .ref q33, .ref q34, .ref q35, .int (i2 0), .int (i2 0), .null, .null, .null, .null])), arC q1 (aC 0) 14 0, arC q2 (aC 0) 14 0, arC q3 (aC 0) 14 0, arC q4 (aC 0) 14 0, arC q5 (aC 0) 14 0, arC q6 (aC 0) 42 0, arC q7 (aC 0) 196 0, arC q8 (aC 1) 196 0, arC q9 (aC 1) 196 0, arC q10 (aC 1) 42 0, arC q11 (aC 0) 3 14, arC q12 (aC 0) 300 0, arC q13 (aC 0) 300 0, arC q14 (aC 0) 300 0, arC q15 (aC 0) 300 0, arC q16 (aC 0) 300 0, arC q17 (aC 0) 32 0, arC q18 (aC 0) 32 0, arC q19 (aC 0) 32 0, arC q20 (aC 0) 64 0, arC q21 (aC 1) 256 0, arC q22 (aC 0) 256 0, arC q23 (aC 0) 256 0, arC q24 (aC 0) 256 0, arC q25 (aC 3) 400 0, arC q26 (aC 0) 98 0, arC q27 (aC 1) 448 0, arC q28 (aC 0) 14 0, arC q29 (aC 0) 14 0, arC q30 (aC 0) 14 0, arC q31 (aC 1) 14 0, arC q32 (aC 0) 6 0, arC q33 (aC 0) 6 0, arC q34 (aC 0) 14 0, arC q35 (aC 0) 14 0]) H _ := w
  refine lv_aload_n hx hb dX11_init_327 rfl (lv_at hl 0 rfl) ?_
  refine nz_sipush X dX11_init_328 (by decide) ?_
  refine nz_new_int (n := 400) X w acw_int (by decide) (nle rfl) (nle rfl) dX11_init_331 (fun q36 H w => ?_)
  have w : WN D A H0 ([(h0, .inr (11, [.int (i2 0), .int (i2 0), .ref q1, .ref q2, .ref q3, .ref q4, .ref q5, .ref q6, .ref q7, .ref q8, .ref q9, .ref q10, .int (i2 2), .ref q11, .int (i2 0), .int (i2 0), .ref q12, .ref q13, .ref q14, .ref q15, .ref q16, .int (i2 0), .int (i2 0), .ref q17, .ref q18, .ref q19, .ref q20, .ref q21, .ref q22, .ref q23, .ref q24, .ref q25, .int (i2 0), .int (i2 0), .int (i2 (-1)), .int (i2 0), .int (i2 0), .int (i2 0), .int (i2 0), .ref q26, .ref q27, .ref q28, .ref q29, .int (i2 0), .int (i2 0), .int (i2 0), .int (i2 0), .ref q30, .int (i2 (-1)), .ref q31, .int (i2 0), .ref q32, .ref q33, .ref q34, .ref q35, .int (i2 0), .int (i2 0), .null, .null, .null, .null])), arC q1 (aC 0) 14 0, arC q2 (aC 0) 14 0, arC q3 (aC 0) 14 0, arC q4 (aC 0) 14 0, arC q5 (aC 0) 14 0, arC q6 (aC 0) 42 0, arC q7 (aC 0) 196 0, arC q8 (aC 1) 196 0, arC q9 (aC 1) 196 0, arC q10 (aC 1) 42 0, arC q11 (aC 0) 3 14, arC q12 (aC 0) 300 0, arC q13 (aC 0) 300 0, arC q14 (aC 0) 300 0, arC q15 (aC 0) 300 0, arC q16 (aC 0) 300 0, arC q17 (aC 0) 32 0, arC q18 (aC 0) 32 0, arC q19 (aC 0) 32 0, arC q20 (aC 0) 64 0, arC q21 (aC 1) 256 0, arC q22 (aC 0) 256 0, arC q23 (aC 0) 256 0, arC q24 (aC 0) 256 0, arC q25 (aC 3) 400 0, arC q26 (aC 0) 98 0, arC q27 (aC 1) 448 0, arC q28 (aC 0) 14 0, arC q29 (aC 0) 14 0, arC q30 (aC 0) 14 0, arC q31 (aC 1) 14 0, arC q32 (aC 0) 6 0, arC q33 (aC 0) 6 0, arC q34 (aC 0) 14 0, arC q35 (aC 0) 14 0, arC q36 (aC 0) 400 0]) H _ := w
  refine nz_putf (q0 := 0) X hin w rfl cp_X11_127 (nlt_ rfl) rfl rfl dX11_init_333 (fun H locs w => ?_)
  have w : WN D A H0 ([(h0, .inr (11, [.int (i2 0), .int (i2 0), .ref q1, .ref q2, .ref q3, .ref q4, .ref q5, .ref q6, .ref q7, .ref q8, .ref q9, .ref q10, .int (i2 2), .ref q11, .int (i2 0), .int (i2 0), .ref q12, .ref q13, .ref q14, .ref q15, .ref q16, .int (i2 0), .int (i2 0), .ref q17, .ref q18, .ref q19, .ref q20, .ref q21, .ref q22, .ref q23, .ref q24, .ref q25, .int (i2 0), .int (i2 0), .int (i2 (-1)), .int (i2 0), .int (i2 0), .int (i2 0), .int (i2 0), .ref q26, .ref q27, .ref q28, .ref q29, .int (i2 0), .int (i2 0), .int (i2 0), .int (i2 0), .ref q30, .int (i2 (-1)), .ref q31, .int (i2 0), .ref q32, .ref q33, .ref q34, .ref q35, .int (i2 0), .int (i2 0), .ref q36, .null, .null, .null])), arC q1 (aC 0) 14 0, arC q2 (aC 0) 14 0, arC q3 (aC 0) 14 0, arC q4 (aC 0) 14 0, arC q5 (aC 0) 14 0, arC q6 (aC 0) 42 0, arC q7 (aC 0) 196 0, arC q8 (aC 1) 196 0, arC q9 (aC 1) 196 0, arC q10 (aC 1) 42 0, arC q11 (aC 0) 3 14, arC q12 (aC 0) 300 0, arC q13 (aC 0) 300 0, arC q14 (aC 0) 300 0, arC q15 (aC 0) 300 0, arC q16 (aC 0) 300 0, arC q17 (aC 0) 32 0, arC q18 (aC 0) 32 0, arC q19 (aC 0) 32 0, arC q20 (aC 0) 64 0, arC q21 (aC 1) 256 0, arC q22 (aC 0) 256 0, arC q23 (aC 0) 256 0, arC q24 (aC 0) 256 0, arC q25 (aC 3) 400 0, arC q26 (aC 0) 98 0, arC q27 (aC 1) 448 0, arC q28 (aC 0) 14 0, arC q29 (aC 0) 14 0, arC q30 (aC 0) 14 0, arC q31 (aC 1) 14 0, arC q32 (aC 0) 6 0, arC q33 (aC 0) 6 0, arC q34 (aC 0) 14 0, arC q35 (aC 0) 14 0, arC q36 (aC 0) 400 0]) H _ := w
  refine lv_aload_n hx hb dX11_init_336 rfl (lv_at hl 0 rfl) ?_
  refine nz_sipush X dX11_init_337 (by decide) ?_
  refine nz_new_int (n := 400) X w acw_int (by decide) (nle rfl) (nle rfl) dX11_init_340 (fun q37 H w => ?_)
  have w : WN D A H0 ([(h0, .inr (11, [.int (i2 0), .int (i2 0), .ref q1, .ref q2, .ref q3, .ref q4, .ref q5, .ref q6, .ref q7, .ref q8, .ref q9, .ref q10, .int (i2 2), .ref q11, .int (i2 0), .int (i2 0), .ref q12, .ref q13, .ref q14, .ref q15, .ref q16, .int (i2 0), .int (i2 0), .ref q17, .ref q18, .ref q19, .ref q20, .ref q21, .ref q22, .ref q23, .ref q24, .ref q25, .int (i2 0), .int (i2 0), .int (i2 (-1)), .int (i2 0), .int (i2 0), .int (i2 0), .int (i2 0), .ref q26, .ref q27, .ref q28, .ref q29, .int (i2 0), .int (i2 0), .int (i2 0), .int (i2 0), .ref q30, .int (i2 (-1)), .ref q31, .int (i2 0), .ref q32, .ref q33, .ref q34, .ref q35, .int (i2 0), .int (i2 0), .ref q36, .null, .null, .null])), arC q1 (aC 0) 14 0, arC q2 (aC 0) 14 0, arC q3 (aC 0) 14 0, arC q4 (aC 0) 14 0, arC q5 (aC 0) 14 0, arC q6 (aC 0) 42 0, arC q7 (aC 0) 196 0, arC q8 (aC 1) 196 0, arC q9 (aC 1) 196 0, arC q10 (aC 1) 42 0, arC q11 (aC 0) 3 14, arC q12 (aC 0) 300 0, arC q13 (aC 0) 300 0, arC q14 (aC 0) 300 0, arC q15 (aC 0) 300 0, arC q16 (aC 0) 300 0, arC q17 (aC 0) 32 0, arC q18 (aC 0) 32 0, arC q19 (aC 0) 32 0, arC q20 (aC 0) 64 0, arC q21 (aC 1) 256 0, arC q22 (aC 0) 256 0, arC q23 (aC 0) 256 0, arC q24 (aC 0) 256 0, arC q25 (aC 3) 400 0, arC q26 (aC 0) 98 0, arC q27 (aC 1) 448 0, arC q28 (aC 0) 14 0, arC q29 (aC 0) 14 0, arC q30 (aC 0) 14 0, arC q31 (aC 1) 14 0, arC q32 (aC 0) 6 0, arC q33 (aC 0) 6 0, arC q34 (aC 0) 14 0, arC q35 (aC 0) 14 0, arC q36 (aC 0) 400 0, arC q37 (aC 0) 400 0]) H _ := w
  refine nz_putf (q0 := 0) X hin w rfl cp_X11_130 (nlt_ rfl) rfl rfl dX11_init_342 (fun H locs w => ?_)
  have w : WN D A H0 ([(h0, .inr (11, [.int (i2 0), .int (i2 0), .ref q1, .ref q2, .ref q3, .ref q4, .ref q5, .ref q6, .ref q7, .ref q8, .ref q9, .ref q10, .int (i2 2), .ref q11, .int (i2 0), .int (i2 0), .ref q12, .ref q13, .ref q14, .ref q15, .ref q16, .int (i2 0), .int (i2 0), .ref q17, .ref q18, .ref q19, .ref q20, .ref q21, .ref q22, .ref q23, .ref q24, .ref q25, .int (i2 0), .int (i2 0), .int (i2 (-1)), .int (i2 0), .int (i2 0), .int (i2 0), .int (i2 0), .ref q26, .ref q27, .ref q28, .ref q29, .int (i2 0), .int (i2 0), .int (i2 0), .int (i2 0), .ref q30, .int (i2 (-1)), .ref q31, .int (i2 0), .ref q32, .ref q33, .ref q34, .ref q35, .int (i2 0), .int (i2 0), .ref q36, .ref q37, .null, .null])), arC q1 (aC 0) 14 0, arC q2 (aC 0) 14 0, arC q3 (aC 0) 14 0, arC q4 (aC 0) 14 0, arC q5 (aC 0) 14 0, arC q6 (aC 0) 42 0, arC q7 (aC 0) 196 0, arC q8 (aC 1) 196 0, arC q9 (aC 1) 196 0, arC q10 (aC 1) 42 0, arC q11 (aC 0) 3 14, arC q12 (aC 0) 300 0, arC q13 (aC 0) 300 0, arC q14 (aC 0) 300 0, arC q15 (aC 0) 300 0, arC q16 (aC 0) 300 0, arC q17 (aC 0) 32 0, arC q18 (aC 0) 32 0, arC q19 (aC 0) 32 0, arC q20 (aC 0) 64 0, arC q21 (aC 1) 256 0, arC q22 (aC 0) 256 0, arC q23 (aC 0) 256 0, arC q24 (aC 0) 256 0, arC q25 (aC 3) 400 0, arC q26 (aC 0) 98 0, arC q27 (aC 1) 448 0, arC q28 (aC 0) 14 0, arC q29 (aC 0) 14 0, arC q30 (aC 0) 14 0, arC q31 (aC 1) 14 0, arC q32 (aC 0) 6 0, arC q33 (aC 0) 6 0, arC q34 (aC 0) 14 0, arC q35 (aC 0) 14 0, arC q36 (aC 0) 400 0, arC q37 (aC 0) 400 0]) H _ := w
  refine lv_aload_n hx hb dX11_init_345 rfl (lv_at hl 0 rfl) ?_
  refine nz_sipush X dX11_init_346 (by decide) ?_
  refine nz_new_int (n := 400) X w acw_int (by decide) (nle rfl) (nle rfl) dX11_init_349 (fun q38 H w => ?_)
  have w : WN D A H0 ([(h0, .inr (11, [.int (i2 0), .int (i2 0), .ref q1, .ref q2, .ref q3, .ref q4, .ref q5, .ref q6, .ref q7, .ref q8, .ref q9, .ref q10, .int (i2 2), .ref q11, .int (i2 0), .int (i2 0), .ref q12, .ref q13, .ref q14, .ref q15, .ref q16, .int (i2 0), .int (i2 0), .ref q17, .ref q18, .ref q19, .ref q20, .ref q21, .ref q22, .ref q23, .ref q24, .ref q25, .int (i2 0), .int (i2 0), .int (i2 (-1)), .int (i2 0), .int (i2 0), .int (i2 0), .int (i2 0), .ref q26, .ref q27, .ref q28, .ref q29, .int (i2 0), .int (i2 0), .int (i2 0), .int (i2 0), .ref q30, .int (i2 (-1)), .ref q31, .int (i2 0), .ref q32, .ref q33, .ref q34, .ref q35, .int (i2 0), .int (i2 0), .ref q36, .ref q37, .null, .null])), arC q1 (aC 0) 14 0, arC q2 (aC 0) 14 0, arC q3 (aC 0) 14 0, arC q4 (aC 0) 14 0, arC q5 (aC 0) 14 0, arC q6 (aC 0) 42 0, arC q7 (aC 0) 196 0, arC q8 (aC 1) 196 0, arC q9 (aC 1) 196 0, arC q10 (aC 1) 42 0, arC q11 (aC 0) 3 14, arC q12 (aC 0) 300 0, arC q13 (aC 0) 300 0, arC q14 (aC 0) 300 0, arC q15 (aC 0) 300 0, arC q16 (aC 0) 300 0, arC q17 (aC 0) 32 0, arC q18 (aC 0) 32 0, arC q19 (aC 0) 32 0, arC q20 (aC 0) 64 0, arC q21 (aC 1) 256 0, arC q22 (aC 0) 256 0, arC q23 (aC 0) 256 0, arC q24 (aC 0) 256 0, arC q25 (aC 3) 400 0, arC q26 (aC 0) 98 0, arC q27 (aC 1) 448 0, arC q28 (aC 0) 14 0, arC q29 (aC 0) 14 0, arC q30 (aC 0) 14 0, arC q31 (aC 1) 14 0, arC q32 (aC 0) 6 0, arC q33 (aC 0) 6 0, arC q34 (aC 0) 14 0, arC q35 (aC 0) 14 0, arC q36 (aC 0) 400 0, arC q37 (aC 0) 400 0, arC q38 (aC 0) 400 0]) H _ := w
  refine nz_putf (q0 := 0) X hin w rfl cp_X11_133 (nlt_ rfl) rfl rfl dX11_init_351 (fun H locs w => ?_)
  have w : WN D A H0 ([(h0, .inr (11, [.int (i2 0), .int (i2 0), .ref q1, .ref q2, .ref q3, .ref q4, .ref q5, .ref q6, .ref q7, .ref q8, .ref q9, .ref q10, .int (i2 2), .ref q11, .int (i2 0), .int (i2 0), .ref q12, .ref q13, .ref q14, .ref q15, .ref q16, .int (i2 0), .int (i2 0), .ref q17, .ref q18, .ref q19, .ref q20, .ref q21, .ref q22, .ref q23, .ref q24, .ref q25, .int (i2 0), .int (i2 0), .int (i2 (-1)), .int (i2 0), .int (i2 0), .int (i2 0), .int (i2 0), .ref q26, .ref q27, .ref q28, .ref q29, .int (i2 0), .int (i2 0), .int (i2 0), .int (i2 0), .ref q30, .int (i2 (-1)), .ref q31, .int (i2 0), .ref q32, .ref q33, .ref q34, .ref q35, .int (i2 0), .int (i2 0), .ref q36, .ref q37, .ref q38, .null])), arC q1 (aC 0) 14 0, arC q2 (aC 0) 14 0, arC q3 (aC 0) 14 0, arC q4 (aC 0) 14 0, arC q5 (aC 0) 14 0, arC q6 (aC 0) 42 0, arC q7 (aC 0) 196 0, arC q8 (aC 1) 196 0, arC q9 (aC 1) 196 0, arC q10 (aC 1) 42 0, arC q11 (aC 0) 3 14, arC q12 (aC 0) 300 0, arC q13 (aC 0) 300 0, arC q14 (aC 0) 300 0, arC q15 (aC 0) 300 0, arC q16 (aC 0) 300 0, arC q17 (aC 0) 32 0, arC q18 (aC 0) 32 0, arC q19 (aC 0) 32 0, arC q20 (aC 0) 64 0, arC q21 (aC 1) 256 0, arC q22 (aC 0) 256 0, arC q23 (aC 0) 256 0, arC q24 (aC 0) 256 0, arC q25 (aC 3) 400 0, arC q26 (aC 0) 98 0, arC q27 (aC 1) 448 0, arC q28 (aC 0) 14 0, arC q29 (aC 0) 14 0, arC q30 (aC 0) 14 0, arC q31 (aC 1) 14 0, arC q32 (aC 0) 6 0, arC q33 (aC 0) 6 0, arC q34 (aC 0) 14 0, arC q35 (aC 0) 14 0, arC q36 (aC 0) 400 0, arC q37 (aC 0) 400 0, arC q38 (aC 0) 400 0]) H _ := w
  refine lv_aload_n hx hb dX11_init_354 rfl (lv_at hl 0 rfl) ?_
  refine nz_bipush X dX11_init_355 (by decide) ?_
  refine nz_new_int (n := 14) X w acw_int (by decide) (nle rfl) (nle rfl) dX11_init_357 (fun q39 H w => ?_)
  have w : WN D A H0 ([(h0, .inr (11, [.int (i2 0), .int (i2 0), .ref q1, .ref q2, .ref q3, .ref q4, .ref q5, .ref q6, .ref q7, .ref q8, .ref q9, .ref q10, .int (i2 2), .ref q11, .int (i2 0), .int (i2 0), .ref q12, .ref q13, .ref q14, .ref q15, .ref q16, .int (i2 0), .int (i2 0), .ref q17, .ref q18, .ref q19, .ref q20, .ref q21, .ref q22, .ref q23, .ref q24, .ref q25, .int (i2 0), .int (i2 0), .int (i2 (-1)), .int (i2 0), .int (i2 0), .int (i2 0), .int (i2 0), .ref q26, .ref q27, .ref q28, .ref q29, .int (i2 0), .int (i2 0), .int (i2 0), .int (i2 0), .ref q30, .int (i2 (-1)), .ref q31, .int (i2 0), .ref q32, .ref q33, .ref q34, .ref q35, .int (i2 0), .int (i2 0), .ref q36, .ref q37, .ref q38, .null])), arC q1 (aC 0) 14 0, arC q2 (aC 0) 14 0, arC q3 (aC 0) 14 0, arC q4 (aC 0) 14 0, arC q5 (aC 0) 14 0, arC q6 (aC 0) 42 0, arC q7 (aC 0) 196 0, arC q8 (aC 1) 196 0, arC q9 (aC 1) 196 0, arC q10 (aC 1) 42 0, arC q11 (aC 0) 3 14, arC q12 (aC 0) 300 0, arC q13 (aC 0) 300 0, arC q14 (aC 0) 300 0, arC q15 (aC 0) 300 0, arC q16 (aC 0) 300 0, arC q17 (aC 0) 32 0, arC q18 (aC 0) 32 0, arC q19 (aC 0) 32 0, arC q20 (aC 0) 64 0, arC q21 (aC 1) 256 0, arC q22 (aC 0) 256 0, arC q23 (aC 0) 256 0, arC q24 (aC 0) 256 0, arC q25 (aC 3) 400 0, arC q26 (aC 0) 98 0, arC q27 (aC 1) 448 0, arC q28 (aC 0) 14 0, arC q29 (aC 0) 14 0, arC q30 (aC 0) 14 0, arC q31 (aC 1) 14 0, arC q32 (aC 0) 6 0, arC q33 (aC 0) 6 0, arC q34 (aC 0) 14 0, arC q35 (aC 0) 14 0, arC q36 (aC 0) 400 0, arC q37 (aC 0) 400 0, arC q38 (aC 0) 400 0, arC q39 (aC 0) 14 0]) H _ := w
  refine nz_putf (q0 := 0) X hin w rfl cp_X11_136 (nlt_ rfl) rfl rfl dX11_init_359 (fun H locs w => ?_)
  have w : WN D A H0 ([(h0, .inr (11, [.int (i2 0), .int (i2 0), .ref q1, .ref q2, .ref q3, .ref q4, .ref q5, .ref q6, .ref q7, .ref q8, .ref q9, .ref q10, .int (i2 2), .ref q11, .int (i2 0), .int (i2 0), .ref q12, .ref q13, .ref q14, .ref q15, .ref q16, .int (i2 0), .int (i2 0), .ref q17, .ref q18, .ref q19, .ref q20, .ref q21, .ref q22, .ref q23, .ref q24, .ref q25, .int (i2 0), .int (i2 0), .int (i2 (-1)), .int (i2 0), .int (i2 0), .int (i2 0), .int (i2 0), .ref q26, .ref q27, .ref q28, .ref q29, .int (i2 0), .int (i2 0), .int (i2 0), .int (i2 0), .ref q30, .int (i2 (-1)), .ref q31, .int (i2 0), .ref q32, .ref q33, .ref q34, .ref q35, .int (i2 0), .int (i2 0), .ref q36, .ref q37, .ref q38, .ref q39])), arC q1 (aC 0) 14 0, arC q2 (aC 0) 14 0, arC q3 (aC 0) 14 0, arC q4 (aC 0) 14 0, arC q5 (aC 0) 14 0, arC q6 (aC 0) 42 0, arC q7 (aC 0) 196 0, arC q8 (aC 1) 196 0, arC q9 (aC 1) 196 0, arC q10 (aC 1) 42 0, arC q11 (aC 0) 3 14, arC q12 (aC 0) 300 0, arC q13 (aC 0) 300 0, arC q14 (aC 0) 300 0, arC q15 (aC 0) 300 0, arC q16 (aC 0) 300 0, arC q17 (aC 0) 32 0, arC q18 (aC 0) 32 0, arC q19 (aC 0) 32 0, arC q20 (aC 0) 64 0, arC q21 (aC 1) 256 0, arC q22 (aC 0) 256 0, arC q23 (aC 0) 256 0, arC q24 (aC 0) 256 0, arC q25 (aC 3) 400 0, arC q26 (aC 0) 98 0, arC q27 (aC 1) 448 0, arC q28 (aC 0) 14 0, arC q29 (aC 0) 14 0, arC q30 (aC 0) 14 0, arC q31 (aC 1) 14 0, arC q32 (aC 0) 6 0, arC q33 (aC 0) 6 0, arC q34 (aC 0) 14 0, arC q35 (aC 0) 14 0, arC q36 (aC 0) 400 0, arC q37 (aC 0) 400 0, arC q38 (aC 0) 400 0, arC q39 (aC 0) 14 0]) H _ := w
  have w : WN D A H0 (wM aC h0 (fun k => [h0, q1, q2, q3, q4, q5, q6, q7, q8, q9, q10, q11, q12, q13, q14, q15, q16, q17, q18, q19, q20, q21, q22, q23, q24, q25, q26, q27, q28, q29, q30, q31, q32, q33, q34, q35, q36, q37, q38, q39].getD k 0) (fun _ => i2 0) (fun _ => i2 0) (fun _ => i2 0) (fun _ => i2 0) (fun _ => i2 0)) H _ := w
  generalize (fun k : Nat => [h0, q1, q2, q3, q4, q5, q6, q7, q8, q9, q10, q11, q12, q13, q14, q15, q16, q17, q18, q19, q20, q21, q22, q23, q24, q25, q26, q27, q28, q29, q30, q31, q32, q33, q34, q35, q36, q37, q38, q39].getD k 0) = u at w
  refine nz_iconst X dX11_init_362 ?_
  refine lv_istore_n (lv' := [(1, .int (i2 0)), (0, .ref h0)]) hx hb dX11_init_363 rfl hl (by decide) rfl (fun ls hl => ?_)
  refine m_loop1 X (fun H locs ls hl w => ?_) 42 0 rfl hl (nz_ext (k0 := 6) w rfl (fun j hj => (if_neg (by omega)).symm))
  refine nz_iconst X dX11_init_383 ?_
  refine lv_istore_n (lv' := [(1, .int (i2 0)), (0, .ref h0)]) hx hb dX11_init_384 rfl hl (by decide) rfl (fun ls hl => ?_)
  have w1 := nz_ext (k0 := 30) (g := fun j => if j < 0 then i2 (-1) else i2 0) w rfl (fun j hj => (if_neg (by omega)).symm)
  have w2 := nz_ext (k0 := 39) (g := fun j => if j < 0 then i2 (-1) else i2 0) w1 rfl (fun j hj => (if_neg (by omega)).symm)
  have w3 := nz_ext (k0 := 34) (g := fun j => if j < 0 then i2 (-1) else i2 0) w2 rfl (fun j hj => (if_neg (by omega)).symm)
  have w4 := nz_ext (k0 := 35) (g := fun j => if j < 0 then i2 (-1) else i2 0) w3 rfl (fun j hj => (if_neg (by omega)).symm)
  exact m_loop2 X (fun H locs ls w => hret u H _ 425 ls w dX11_init_425) 14 0 rfl hl w4
theorem nw_L_8 : Cond.classLink RL 8 RX10 ∈ BW ∧ Cond.instantiable RX10 19 ∈ BW ∧ Cond.initialized RX10 ∈ BW := ⟨(BW_in (List.mem_of_getElem? (i := 122) (by decide +kernel)) rfl), (BW_in (List.mem_of_getElem? (i := 123) (by decide +kernel)) rfl), (BW_in (List.mem_of_getElem? (i := 98) (by decide +kernel)) rfl)⟩
theorem nw_L_19 : Cond.classLink RL 19 RX11 ∈ BW ∧ Cond.instantiable RX11 61 ∈ BW ∧ Cond.initialized RX11 ∈ BW := ⟨(BW_in (List.mem_of_getElem? (i := 1370) (by decide +kernel)) rfl), (BW_in (List.mem_of_getElem? (i := 1371) (by decide +kernel)) rfl), (BW_in (List.mem_of_getElem? (i := 110) (by decide +kernel)) rfl)⟩
theorem lc_L_18 : LkI RL 18 yX10_init cX10_init 1 0 := ⟨⟨(BW_in (List.mem_of_getElem? (i := 126) (by decide +kernel)) rfl), (BW_in (List.mem_of_getElem? (i := 124) (by decide +kernel)) rfl), (BW_in (List.mem_of_getElem? (i := 98) (by decide +kernel)) rfl), ⟨by decide +kernel, by decide +kernel, by decide +kernel⟩⟩, rfl, (BW_in (List.mem_of_getElem? (i := 125) (by decide +kernel)) rfl)⟩
theorem lc_L_21 : LkI RL 21 yX11_init cX11_init 2 0 := ⟨⟨(BW_in (List.mem_of_getElem? (i := 1374) (by decide +kernel)) rfl), (BW_in (List.mem_of_getElem? (i := 1372) (by decide +kernel)) rfl), (BW_in (List.mem_of_getElem? (i := 110) (by decide +kernel)) rfl), ⟨by decide +kernel, by decide +kernel, by decide +kernel⟩⟩, rfl, (BW_in (List.mem_of_getElem? (i := 1373) (by decide +kernel)) rfl)⟩
theorem acw_long : Cond.arrayClass .long ∈ BW := (BW_in (List.mem_of_getElem? (i := 1944) (by decide +kernel)) rfl)
