/-! what the tables give -/
section TBL
variable {args : Array Value} {s : State} {A : Nat → Prop}
theorem st_D (hts : ∀ w ∈ BW, w.before args s = true) : ∃ D : va_G, ∀ (c : Nat) (q : vw_C), vwCl[c]? = some q → u_Kn s q.1 q.2.1 q.2.2 (D.1 c) (D.2 c) := by
  obtain ⟨c0, i0, h0⟩ := u_known (C := RX0) (T := TX0) (N := 5) (n := 5) hts in_X0 (hts _ (BW_in (List.mem_of_getElem? (i := 476) (by decide +kernel)) rfl))
  obtain ⟨c1, i1, h1⟩ := u_known (C := RX1) (T := TX1) (N := 15) (n := 15) hts in_X1 (hts _ (BW_in (List.mem_of_getElem? (i := 131) (by decide +kernel)) rfl))
  obtain ⟨c2, i2, h2⟩ := u_known (C := RX2) (T := TX2) (N := 7) (n := 7) hts in_X2 (hts _ (BW_in (List.mem_of_getElem? (i := 413) (by decide +kernel)) rfl))
  obtain ⟨c3, i3, h3⟩ := u_known (C := RX3) (T := TX3) (N := 7) (n := 7) hts in_X3 (hts _ (BW_in (List.mem_of_getElem? (i := 445) (by decide +kernel)) rfl))
  obtain ⟨c4, i4, h4⟩ := u_known (C := RX4) (T := TX4) (N := 8) (n := 8) hts in_X4 (hts _ (BW_in (List.mem_of_getElem? (i := 311) (by decide +kernel)) rfl))
  obtain ⟨c5, i5, h5⟩ := u_known (C := RX5) (T := TX5) (N := 7) (n := 7) hts in_X5 (hts _ (BW_in (List.mem_of_getElem? (i := 218) (by decide +kernel)) rfl))
  obtain ⟨c6, i6, h6⟩ := u_known (C := RX6) (T := TX6) (N := 8) (n := 8) hts in_X6 (hts _ (BW_in (List.mem_of_getElem? (i := 278) (by decide +kernel)) rfl))
  obtain ⟨c7, i7, h7⟩ := u_known (C := RX7) (T := TX7) (N := 9) (n := 9) hts in_X7 (hts _ (BW_in (List.mem_of_getElem? (i := 501) (by decide +kernel)) rfl))
  obtain ⟨c8, i8, h8⟩ := u_known (C := RX8) (T := TX8) (N := 20) (n := 20) hts in_X8 (hts _ (BW_in (List.mem_of_getElem? (i := 343) (by decide +kernel)) rfl))
  obtain ⟨c9, i9, h9⟩ := u_known (C := RX9) (T := TX9) (N := 6) (n := 6) hts in_X9 (hts _ (BW_in (List.mem_of_getElem? (i := 247) (by decide +kernel)) rfl))
  obtain ⟨c10, i10, h10⟩ := u_known (C := RX10) (T := TX10) (N := 19) (n := 19) hts in_X10 (hts _ (BW_in (List.mem_of_getElem? (i := 123) (by decide +kernel)) rfl))
  obtain ⟨c11, i11, h11⟩ := u_known (C := RX11) (T := TX11) (N := 61) (n := 61) hts in_X11 (hts _ (BW_in (List.mem_of_getElem? (i := 1371) (by decide +kernel)) rfl))
  refine ⟨(fun k => match k with | 0 => c0 | 1 => c1 | 2 => c2 | 3 => c3 | 4 => c4 | 5 => c5 | 6 => c6 | 7 => c7 | 8 => c8 | 9 => c9 | 10 => c10 | 11 => c11 | _ => c0, fun k => match k with | 0 => i0 | 1 => i1 | 2 => i2 | 3 => i3 | 4 => i4 | 5 => i5 | 6 => i6 | 7 => i7 | 8 => i8 | 9 => i9 | 10 => i10 | 11 => i11 | _ => i0), ?_⟩
  intro k q hq
  match k, hq with
  | 0, hq => cases hq; exact h0
  | 1, hq => cases hq; exact h1
  | 2, hq => cases hq; exact h2
  | 3, hq => cases hq; exact h3
  | 4, hq => cases hq; exact h4
  | 5, hq => cases hq; exact h5
  | 6, hq => cases hq; exact h6
  | 7, hq => cases hq; exact h7
  | 8, hq => cases hq; exact h8
  | 9, hq => cases hq; exact h9
  | 10, hq => cases hq; exact h10
  | 11, hq => cases hq; exact h11
  | k + 12, hq => cases (show none = some q from hq)
theorem arr_kn {ty : FieldType} (h : (Cond.arrayClass ty).before args s = true) : ∃ cA : ClassId, s.vm.findClass ("[" ++ ty.toString) = some cA ∧ ArrOfT s cA ty := by
  obtain ⟨c, k, comp, h1, h2, h3⟩ := Cond.arrayClass_spec h
  exact ⟨c, h1, fun n z => ⟨fun k h => (by cases h), k, h2, comp, h3⟩⟩
theorem st_K {D : va_G} (hts : ∀ w ∈ BW, w.before args s = true) (hD : ∀ (c : Nat) (q : vw_C), vwCl[c]? = some q → u_Kn s q.1 q.2.1 q.2.2 (D.1 c) (D.2 c)) : ∃ aC : Nat → ClassId, va_K D vwCl (tysL aC) s := by
  obtain ⟨c0, f0, h0⟩ := arr_kn (ty := .int) (hts _ (BW_in (List.mem_of_getElem? (i := 216) (by decide +kernel)) rfl))
  obtain ⟨c1, f1, h1⟩ := arr_kn (ty := .boolean) (hts _ (BW_in (List.mem_of_getElem? (i := 555) (by decide +kernel)) rfl))
  obtain ⟨c2, f2, h2⟩ := arr_kn (ty := .char) (hts _ (BW_in (List.mem_of_getElem? (i := 276) (by decide +kernel)) rfl))
  obtain ⟨c3, f3, h3⟩ := arr_kn (ty := .byte) (hts _ (BW_in (List.mem_of_getElem? (i := 824) (by decide +kernel)) rfl))
  obtain ⟨c4, f4, h4⟩ := arr_kn (ty := .long) (hts _ (BW_in (List.mem_of_getElem? (i := 1944) (by decide +kernel)) rfl))
  refine ⟨fun k => match k with | 0 => c0 | 1 => c1 | 2 => c2 | 3 => c3 | _ => c4, hD, ?_⟩
  intro k q hq
  match k, hq with
  | 0, hq => cases hq; exact ⟨h0, f0⟩
  | 1, hq => cases hq; exact ⟨h1, f1⟩
  | 2, hq => cases hq; exact ⟨h2, f2⟩
  | 3, hq => cases hq; exact ⟨h3, f3⟩
  | 4, hq => cases hq; exact ⟨h4, f4⟩
  | k + 5, hq => cases (show none = some q from hq)
theorem st_NW (hts : ∀ w ∈ lw_tbl, w.before args s = true) : NWs s := ⟨va_Nw.of rfl (hts _ (by decide +kernel)), va_Nw.of rfl (hts _ (by decide +kernel)), va_Nw.of rfl (hts _ (by decide +kernel)), va_Nw.of rfl (hts _ (by decide +kernel))⟩
theorem st_VN (hts : ∀ w ∈ lw_tbl, w.before args s = true) : vxN s := ⟨va_Nw.of rfl (hts _ (by decide +kernel)), va_Nw.of rfl (hts _ (by decide +kernel)), va_Nw.of rfl (hts _ (by decide +kernel)), va_Nw.of rfl (hts _ (by decide +kernel))⟩
def flP : List Cond := flatC (Jvm.Cond.and given_1 narrow_1)
theorem st_VZ (hts : ∀ w ∈ lw_tbl, w.before args s = true) (hg : ∀ w ∈ flP, w.before args s = true) (hA : ∀ a : Nat, a < s.heap.size → ¬ A a) : vxZ A s s.heap :=
  ⟨vx_Zqof (hts _ (by decide +kernel)) (hts _ (by decide +kernel)) (hg _ (by decide +kernel)) hA, vx_Zqof (hts _ (by decide +kernel)) (hts _ (by decide +kernel)) (hg _ (by decide +kernel)) hA⟩
def sTm (i : Nat) : Term := .string (sOwn.getD i "") (sIdx.getD i 0)
def bS : List Nat := [23, 146, 172, 192, 252, 300, 308, 315, 325, 334, 344, 353, 361, 370, 379, 386, 393, 400, 409, 417, 425, 433, 443, 452, 459, 467, 477]
def rS : List Nat := [716, 1329, 1355, 1356, 1369, 1664, 1665, 1666, 1667, 1668, 1669, 1670, 1671, 1672, 1695, 1696, 1704, 1705, 1706, 1707, 1708, 1709, 1710, 1715, 1724, 1725, 1726]
set_option maxRecDepth 100000 in
theorem sx_ex : ∀ i, i < NS → flP[bS.getD i 0]? = some (Cond.exactly (sTm i) "java/lang/String") := by decide +kernel
set_option maxRecDepth 100000 in
theorem sx_co : ∀ i, i < NS → flP[bS.getD i 0 + 1]? = some (Cond.eq (.field (sTm i) "java/lang/String" "coder" "B") (.int 0)) := by decide +kernel
set_option maxRecDepth 100000 in
theorem sx_ar : ∀ i, i < NS → flP[bS.getD i 0 + 2]? = some (Cond.arrayOf (.field (sTm i) "java/lang/String" "value" "[B") .byte) := by decide +kernel
set_option maxRecDepth 100000 in
theorem sx_le : ∀ i, i < NS → flP[bS.getD i 0 + 3]? = some (Cond.eq (.length (.field (sTm i) "java/lang/String" "value" "[B")) (.int (Int32.ofNat (sLen i)))) := by decide +kernel
set_option maxRecDepth 100000 in
theorem sx_el : ∀ i, i < NS → ∀ j, j < sLen i → flP[bS.getD i 0 + 4 + j]? = some (Cond.eq (.elem (.field (sTm i) "java/lang/String" "value" "[B") (.int (Int32.ofNat j))) (.int (i2 (sAt i j)))) := by decide +kernel
set_option maxRecDepth 100000 in
theorem sx_rf : ∀ i, i < NS → lw_tbl[rS.getD i 0]? = some (Cond.stringRef (sOwn.getD i "") (sIdx.getD i 0) (sTx.getD i "")) := by decide +kernel
theorem sx_sz : ∀ i, i < NS → sLen i < 2 ^ 31 := by decide +kernel
theorem st_STR (hts : ∀ w ∈ lw_tbl, w.before args s = true) (hg : ∀ w ∈ flP, w.before args s = true) (hA : ∀ a : Nat, a < s.heap.size → ¬ A a) : ∃ sg : SG, STR sg A s s.heap := by
  have h0 : ∀ i : Nat, ∃ q : Nat × Nat, i < NS → va_O "java/lang/String" q.1 A s s.heap ∧ va_OF "java/lang/String" "coder" "B" (.int 0) q.1 A s s.heap ∧ va_OF "java/lang/String" "value" "[B" (.ref q.2) q.1 A s s.heap ∧ va_T .byte q.2 (sLen i) (fun j => .int (i2 (sAt i j))) A s s.heap ∧ vk_R (sOwn.getD i "") (sIdx.getD i 0) (sTx.getD i "") q.1 s := by
    intro i
    by_cases hi : i < NS
    · obtain ⟨a, c, cA, kA, q1, q2, q3, q4, q5, q6, -⟩ := Cond.exactly_spec (args := args) (first := s) (o := none) (s := s) (idx := []) (t := sTm i) (cls := "java/lang/String") (hg _ (List.mem_of_getElem? (sx_ex i hi)))
      obtain ⟨t, ht, hT⟩ := va_Tof (f := fun j => .int (i2 (sAt i j))) (A := A) (sx_sz i hi) (hg _ (List.mem_of_getElem? (sx_ar i hi))) (va_eqt (hg _ (List.mem_of_getElem? (sx_le i hi)))) (fun j hj => va_eqt (hg _ (List.mem_of_getElem? (sx_el i hi j hj)))) hA
      exact ⟨(a, t), fun _ => ⟨⟨cA, q3, q5, by rw [q6]; exact q2, hA a (Array.getElem?_eq_some_iff.mp q3).1⟩, vk_OFof q1 (va_eqt (hg _ (List.mem_of_getElem? (sx_co i hi)))) hA, vk_OFof q1 ht hA, hT, vk_R.of (A := args) (hts _ (List.mem_of_getElem? (sx_rf i hi))) q1⟩⟩
    · exact ⟨(0, 0), fun h => absurd h hi⟩
  obtain ⟨ad, had⟩ := Classical.axiomOfChoice h0
  refine ⟨(fun i => (ad i).1, fun i => (ad i).2), fun i hi => had i hi, ?_, ?_, va_Nw.of rfl (hts _ (by decide +kernel))⟩
  · exact va_Zof (hts _ (by decide +kernel)) (hts _ (by decide +kernel)) (va_eqi (hg _ (by decide +kernel))) hA
  · exact va_Zqof (hts _ (by decide +kernel)) (hts _ (by decide +kernel)) (hg _ (by decide +kernel)) hA
end TBL
