/-! of and lie: the model doesn't see the long -/
theorem mup_oq {M : Mem} {v : Int} : mup M 120 0 v = oq v M := rfl
theorem oq_self {M : Mem} : oq (M 120 0) M = M := by
  funext c i
  show (if c = 120 ∧ i = 0 then M 120 0 else M c i) = M c i
  split
  · rename_i h; rw [h.1, h.2]
  · rfl
theorem inv_oq {M : Mem} (I : Inv M) (v : Int) : Inv (oq v M) := I.congr (fun c i z => oq_rd (by unfold isS isFa isO isX1 isX2 at z; omega))
theorem fr_lie {c p : Int} {N N2 : Mem} {r2 : Int} (h : f_X11_lie c p N = some (r2, N2)) : N2 120 0 = N 120 0 := by
  have h1 := oq_X11_lie (L := N 120 0) c p N
  rw [oq_self, h] at h1
  have h2 := congrArg Prod.snd (Option.some.inj h1)
  have h3 : N2 = oq (N 120 0) N2 := h2
  rw [h3]
  exact if_pos ⟨rfl, rfl⟩
theorem lh_lie {c p : Int} {M1 M2 : Mem} {r r2 : Int} (h : f_X11_lie c p M1 = some (r2, M2)) (I2 : Inv M2) (hq : (r = 2147483648 ∧ M2 80 0 = 1) ∨ (M2 80 0 = 0 ∧ r2 = r)) : ∃ M3, f_X11_lie c p (lhM r M1) = some (r2, M3) ∧ Inv M3 ∧ (inR r2 → (r = 2147483648 ∧ M3 80 0 = 1) ∨ (M3 80 0 = 0 ∧ ¬ r = 2147483648 ∧ M3 120 0 = r ∧ r2 = r)) := by
  by_cases hr : r = 2147483648
  · refine ⟨M2, ?_, I2, fun hR => ?_⟩
    · rw [show lhM r M1 = M1 from if_pos hr]; exact h
    · rcases hq with q | q
      · exact Or.inl q
      · exfalso
        rw [q.2, hr] at hR
        exact thE_no hR
  · have e0 : lhM r M1 = oq r M1 := if_neg hr
    have h1 := oq_X11_lie (L := r) c p M1
    rw [h] at h1
    have h1 : f_X11_lie c p (oq r M1) = some (r2, oq r M2) := h1
    refine ⟨oq r M2, by rw [e0]; exact h1, inv_oq I2 r, fun _ => Or.inr ?_⟩
    rcases hq with q | q
    · exact absurd q.1 hr
    · exact ⟨(oq_rd (by decide)).trans q.1, hr, if_pos ⟨rfl, rfl⟩, q.2⟩
theorem fr_of {c p : Int} {N N2 : Mem} {r2 : Int} (h : f_X11_of c p N = some (r2, N2)) : N2 120 0 = N 120 0 := by
  have h1 := oq_X11_of (L := N 120 0) c p N
  rw [oq_self, h] at h1
  have h2 := congrArg Prod.snd (Option.some.inj h1)
  have h3 : N2 = oq (N 120 0) N2 := h2
  rw [h3]
  exact if_pos ⟨rfl, rfl⟩
theorem lh_of {c p : Int} {M1 M2 : Mem} {r r2 : Int} (h : f_X11_of c p M1 = some (r2, M2)) (I2 : Inv M2) (hq : (r = 2147483648 ∧ M2 80 0 = 1) ∨ (M2 80 0 = 0 ∧ r2 = r)) : ∃ M3, f_X11_of c p (lhM r M1) = some (r2, M3) ∧ Inv M3 ∧ (inR r2 → (r = 2147483648 ∧ M3 80 0 = 1) ∨ (M3 80 0 = 0 ∧ ¬ r = 2147483648 ∧ M3 120 0 = r ∧ r2 = r)) := by
  by_cases hr : r = 2147483648
  · refine ⟨M2, ?_, I2, fun hR => ?_⟩
    · rw [show lhM r M1 = M1 from if_pos hr]; exact h
    · rcases hq with q | q
      · exact Or.inl q
      · exfalso
        rw [q.2, hr] at hR
        exact thE_no hR
  · have e0 : lhM r M1 = oq r M1 := if_neg hr
    have h1 := oq_X11_of (L := r) c p M1
    rw [h] at h1
    have h1 : f_X11_of c p (oq r M1) = some (r2, oq r M2) := h1
    refine ⟨oq r M2, by rw [e0]; exact h1, inv_oq I2 r, fun _ => Or.inr ?_⟩
    rcases hq with q | q
    · exact absurd q.1 hr
    · exact ⟨(oq_rd (by decide)).trans q.1, hr, if_pos ⟨rfl, rfl⟩, q.2⟩
section LAWC
variable {p : Program} {l : Launch} {e : Env} {s : State} {m : MethodId} {args : Array Value} {below : List Frame} {meth : Method} {c : Code} {H : Heap} {locs : List Loc} {cells slots : Nat} {Q : State → Prop}
variable {D : va_G} {aC : Nat → ClassId} {ad : Nat → Nat} {sg : SG} {A : Nat → Prop} {H0 : Heap} {M : Mem} {ls : Array Slot} {b L : Nat} {xs : Nat → Int32}
set_option maxRecDepth 100000 in
set_option maxHeartbeats 4000000 in
theorem q_lie (hl0 : l.stackTraces = false) (hZ : vxZ A s s.heap) (hN : vxN s) (X : CX p s m args c cL_law 7 RL D aC ad sg A H0) (hX : va_X b L xs s H0) (hbl : b < H0.size) (hbA : ¬ A b) {i : Int} (hi : 0 ≤ i ∧ i + 6 ≤ (L : Int) ∧ L ≤ 3072) (I : Inv M) (hl : lv_has ls 7 (lvL b ad i)) (w : WS D aC ad A H0 M H locs) (hc : cells + 2 ≤ room_1.cells ∧ slots + 9 ≤ room_1.slots) (KK : ∀ (M' : Mem) (H' : Heap) (locs' : List Loc) (ls' : Array Slot) (cells' slots' : Nat), cells' ≤ cells + 2 → slots' ≤ slots + 9 → Inv M' → WS D aC ad A H0 M' H' locs' → lv_has ls' 7 (lvL b ad i) → W p l e room_1 s m args below meth c H' locs' cells' slots' Q (F0 m 1585 ls' [])) : W p l e room_1 s m args below meth c H locs cells slots Q (F0 m 1164 ls []) := by
  have hx := X.1.1
  have hb := X.1.2.1
  have hi0 := X.2.2.1
  obtain ⟨⟨r, M1⟩, e1, ⟨r2, M2⟩, e2, I2, hq⟩ := op_lie I (sc xs i 1) (sc xs i 2)
  obtain ⟨M3, e3, I3, hz⟩ := lh_lie (c := sc xs i 1) (p := sc xs i 2) e2 I2 hq
  refine lv_aload_n hx hb dL_law_1164 rfl (lv_at hl 1 rfl) ?_
  refine g_sc (k := 1) X w hX hbl hbA (lv_at hl 0 rfl) (lv_at hl 4 rfl) hi (by decide) dL_law_1165 dL_law_1166 dL_law_1168 dL_law_1169 dL_law_1170 ?_
  refine g_sc (k := 2) X w hX hbl hbA (lv_at hl 0 rfl) (lv_at hl 4 rfl) hi (by decide) dL_law_1171 dL_law_1172 dL_law_1174 dL_law_1175 dL_law_1176 ?_
  refine lv_aload_n hx hb dL_law_1177 rfl (lv_at hl 3 rfl) ?_
  refine g_cL (As := [.ref (ad 0), .int (i2 (sc xs i 1)), .int (i2 (sc xs i 2)), .ref (ad 120)]) (rest := []) (r := lhR r) (M' := lhM r M1) X hZ hN w (fun sz => k_L_lie hl0 hi0 _ inR_sc _ inR_sc w.2.2 e1 sz) lwh_lie ⟨rfl, rfl⟩ ⟨nle rfl, nle rfl⟩ ⟨by omega, by omega⟩ hl.1 rfl (nle rfl) dL_law_1178 (fun H1 locs1 w1 => ?_)
  refine lv_istore (lv' := (5, .int (i2 (lhR r))) :: lvL b ad i) hx hb dL_law_1181 hl (by decide) rfl (fun ls hl => ?_)
  refine lv_aload_n hx hb dL_law_1183 rfl (lv_at hl 3 rfl) ?_
  refine g_sc (k := 1) X w1 hX hbl hbA (lv_at hl 1 rfl) (lv_at hl 5 rfl) hi (by decide) dL_law_1184 dL_law_1185 dL_law_1187 dL_law_1188 dL_law_1189 ?_
  refine g_sc (k := 2) X w1 hX hbl hbA (lv_at hl 1 rfl) (lv_at hl 5 rfl) hi (by decide) dL_law_1190 dL_law_1191 dL_law_1193 dL_law_1194 dL_law_1195 ?_
  refine g_cvi (As := [.int (i2 (sc xs i 1)), .int (i2 (sc xs i 2))]) (rest := []) X w1 (k_X11_lie hi0 _ inR_sc _ inR_sc w1.2.2 e3) lw11_lie cl_11 KD_80 ⟨rfl, rfl⟩ ⟨nle rfl, nle rfl⟩ ⟨by omega, by omega⟩ hl.1 rfl (nle rfl) dL_law_1196 (fun hr2 H2 locs2 w2 => ?_)
  refine lv_istore (lv' := (6, .int (i2 r2)) :: (5, .int (i2 (lhR r))) :: lvL b ad i) hx hb dL_law_1199 hl (by decide) rfl (fun ls hl => ?_)
  refine lv_aload_n hx hb dL_law_1201 rfl (lv_at hl 4 rfl) ?_
  refine g_cvi (As := []) (rest := []) X w2 (k_X11_thrown hi0 w2.2.2 (r := M3 80 0) rfl) lw11_thrown cl_11 KD_80 ⟨rfl, rfl⟩ ⟨nle rfl, nle rfl⟩ ⟨by omega, by omega⟩ hl.1 rfl (nle rfl) dL_law_1202 (fun hr3 H3 locs3 w3 => ?_)
  refine lv_iload hx hb dL_law_1205 (lv_at hl 1 rfl) ?_
  rcases hz hr2 with ⟨hr, ht⟩ | ⟨ht, hn, h120, eq2⟩
  · have ek : lhR r = 1 := if_pos hr
    have hl5 := lv_at hl 1 rfl
    rw [ek] at hl5 ⊢
    rw [ht]
    refine g_icmp_eq (tgt := 1212) X (inL rfl) (inL rfl) dL_law_1207 (by decide) (fun _ => ?_) (fun z => absurd rfl z)
    refine lv_iload hx hb dL_law_1212 hl5 ?_
    refine g_if_ne (tgt := 1229) X (inL rfl) dL_law_1214 (by decide) (fun _ => ?_) (fun z => absurd z (by decide))
    refine lv_goto (tgt := 1585) hx hb dL_law_1229 (by decide) ?_
    exact KK M3 _ _ _ _ _ (by omega) (by omega) I3 w3 (lv_sub hl [2, 3, 4, 5, 6] rfl)
  · have ek : lhR r = 0 := if_neg hn
    have hl5 := lv_at hl 1 rfl
    rw [ek] at hl5 ⊢
    rw [ht]
    refine g_icmp_eq (tgt := 1212) X (inL rfl) (inL rfl) dL_law_1207 (by decide) (fun _ => ?_) (fun z => absurd rfl z)
    refine lv_iload hx hb dL_law_1212 hl5 ?_
    refine g_if_ne (tgt := 1229) X (inL rfl) dL_law_1214 (by decide) (fun z => absurd rfl z) (fun _ => ?_)
    refine lv_aload_n hx hb dL_law_1217 rfl (lv_at hl 5 rfl) ?_
    refine g_iconst X dL_law_1218 ?_
    refine g_lald (a := 120) (n := 1) (i := 0) X w3 KD_120 (inL rfl) (by decide) dL_law_1219 ?_
    refine lv_iload hx hb dL_law_1220 (lv_at hl 0 rfl) ?_
    refine g_i2l X hr2 dL_law_1222 ?_
    refine W.lcmp hx hb dL_law_1223 ?_
    rw [show M3 120 (0 : Int).toNat = r2 from h120.trans eq2.symm]
    rw [show lg_cmp (Int64.ofInt r2) (Int64.ofInt r2) = i2 0 from by simp [lg_cmp]; rfl]
    refine g_if_eq (tgt := 1229) X (inL rfl) dL_law_1224 (by decide) (fun _ => ?_) (fun z => absurd rfl z)
    refine lv_goto (tgt := 1585) hx hb dL_law_1229 (by decide) ?_
    exact KK M3 _ _ _ _ _ (by omega) (by omega) I3 w3 (lv_sub hl [2, 3, 4, 5, 6] rfl)
set_option maxRecDepth 100000 in
set_option maxHeartbeats 4000000 in
theorem q_of (hl0 : l.stackTraces = false) (hZ : vxZ A s s.heap) (hN : vxN s) (X : CX p s m args c cL_law 7 RL D aC ad sg A H0) (hX : va_X b L xs s H0) (hbl : b < H0.size) (hbA : ¬ A b) {i : Int} (hi : 0 ≤ i ∧ i + 6 ≤ (L : Int) ∧ L ≤ 3072) (I : Inv M) (hl : lv_has ls 7 (lvL b ad i)) (w : WS D aC ad A H0 M H locs) (hc : cells + 2 ≤ room_1.cells ∧ slots + 9 ≤ room_1.slots) (KK : ∀ (M' : Mem) (H' : Heap) (locs' : List Loc) (ls' : Array Slot) (cells' slots' : Nat), cells' ≤ cells + 2 → slots' ≤ slots + 9 → Inv M' → WS D aC ad A H0 M' H' locs' → lv_has ls' 7 (lvL b ad i) → W p l e room_1 s m args below meth c H' locs' cells' slots' Q (F0 m 1585 ls' [])) : W p l e room_1 s m args below meth c H locs cells slots Q (F0 m 1492 ls []) := by
  have hx := X.1.1
  have hb := X.1.2.1
  have hi0 := X.2.2.1
  obtain ⟨⟨r, M1⟩, e1, ⟨r2, M2⟩, e2, I2, hq⟩ := op_of I (sc xs i 1) (sc xs i 2)
  obtain ⟨M3, e3, I3, hz⟩ := lh_of (c := sc xs i 1) (p := sc xs i 2) e2 I2 hq
  refine lv_aload_n hx hb dL_law_1492 rfl (lv_at hl 1 rfl) ?_
  refine g_sc (k := 1) X w hX hbl hbA (lv_at hl 0 rfl) (lv_at hl 4 rfl) hi (by decide) dL_law_1493 dL_law_1494 dL_law_1496 dL_law_1497 dL_law_1498 ?_
  refine g_sc (k := 2) X w hX hbl hbA (lv_at hl 0 rfl) (lv_at hl 4 rfl) hi (by decide) dL_law_1499 dL_law_1500 dL_law_1502 dL_law_1503 dL_law_1504 ?_
  refine lv_aload_n hx hb dL_law_1505 rfl (lv_at hl 3 rfl) ?_
  refine g_cL (As := [.ref (ad 0), .int (i2 (sc xs i 1)), .int (i2 (sc xs i 2)), .ref (ad 120)]) (rest := []) (r := lhR r) (M' := lhM r M1) X hZ hN w (fun sz => k_L_of hl0 hi0 _ inR_sc _ inR_sc w.2.2 e1 sz) lwh_of ⟨rfl, rfl⟩ ⟨nle rfl, nle rfl⟩ ⟨by omega, by omega⟩ hl.1 rfl (nle rfl) dL_law_1506 (fun H1 locs1 w1 => ?_)
  refine lv_istore (lv' := (5, .int (i2 (lhR r))) :: lvL b ad i) hx hb dL_law_1509 hl (by decide) rfl (fun ls hl => ?_)
  refine lv_aload_n hx hb dL_law_1511 rfl (lv_at hl 3 rfl) ?_
  refine g_sc (k := 1) X w1 hX hbl hbA (lv_at hl 1 rfl) (lv_at hl 5 rfl) hi (by decide) dL_law_1512 dL_law_1513 dL_law_1515 dL_law_1516 dL_law_1517 ?_
  refine g_sc (k := 2) X w1 hX hbl hbA (lv_at hl 1 rfl) (lv_at hl 5 rfl) hi (by decide) dL_law_1518 dL_law_1519 dL_law_1521 dL_law_1522 dL_law_1523 ?_
  refine g_cvi (As := [.int (i2 (sc xs i 1)), .int (i2 (sc xs i 2))]) (rest := []) X w1 (k_X11_of hi0 _ inR_sc _ inR_sc w1.2.2 e3) lw11_of cl_11 KD_80 ⟨rfl, rfl⟩ ⟨nle rfl, nle rfl⟩ ⟨by omega, by omega⟩ hl.1 rfl (nle rfl) dL_law_1524 (fun hr2 H2 locs2 w2 => ?_)
  refine lv_istore (lv' := (6, .int (i2 r2)) :: (5, .int (i2 (lhR r))) :: lvL b ad i) hx hb dL_law_1527 hl (by decide) rfl (fun ls hl => ?_)
  refine lv_aload_n hx hb dL_law_1529 rfl (lv_at hl 4 rfl) ?_
  refine g_cvi (As := []) (rest := []) X w2 (k_X11_thrown hi0 w2.2.2 (r := M3 80 0) rfl) lw11_thrown cl_11 KD_80 ⟨rfl, rfl⟩ ⟨nle rfl, nle rfl⟩ ⟨by omega, by omega⟩ hl.1 rfl (nle rfl) dL_law_1530 (fun hr3 H3 locs3 w3 => ?_)
  refine lv_iload hx hb dL_law_1533 (lv_at hl 1 rfl) ?_
  rcases hz hr2 with ⟨hr, ht⟩ | ⟨ht, hn, h120, eq2⟩
  · have ek : lhR r = 1 := if_pos hr
    have hl5 := lv_at hl 1 rfl
    rw [ek] at hl5 ⊢
    rw [ht]
    refine g_icmp_eq (tgt := 1540) X (inL rfl) (inL rfl) dL_law_1535 (by decide) (fun _ => ?_) (fun z => absurd rfl z)
    refine lv_iload hx hb dL_law_1540 hl5 ?_
    refine g_if_ne (tgt := 1557) X (inL rfl) dL_law_1542 (by decide) (fun _ => ?_) (fun z => absurd z (by decide))
    refine lv_goto (tgt := 1585) hx hb dL_law_1557 (by decide) ?_
    exact KK M3 _ _ _ _ _ (by omega) (by omega) I3 w3 (lv_sub hl [2, 3, 4, 5, 6] rfl)
  · have ek : lhR r = 0 := if_neg hn
    have hl5 := lv_at hl 1 rfl
    rw [ek] at hl5 ⊢
    rw [ht]
    refine g_icmp_eq (tgt := 1540) X (inL rfl) (inL rfl) dL_law_1535 (by decide) (fun _ => ?_) (fun z => absurd rfl z)
    refine lv_iload hx hb dL_law_1540 hl5 ?_
    refine g_if_ne (tgt := 1557) X (inL rfl) dL_law_1542 (by decide) (fun z => absurd rfl z) (fun _ => ?_)
    refine lv_aload_n hx hb dL_law_1545 rfl (lv_at hl 5 rfl) ?_
    refine g_iconst X dL_law_1546 ?_
    refine g_lald (a := 120) (n := 1) (i := 0) X w3 KD_120 (inL rfl) (by decide) dL_law_1547 ?_
    refine lv_iload hx hb dL_law_1548 (lv_at hl 0 rfl) ?_
    refine g_i2l X hr2 dL_law_1550 ?_
    refine W.lcmp hx hb dL_law_1551 ?_
    rw [show M3 120 (0 : Int).toNat = r2 from h120.trans eq2.symm]
    rw [show lg_cmp (Int64.ofInt r2) (Int64.ofInt r2) = i2 0 from by simp [lg_cmp]; rfl]
    refine g_if_eq (tgt := 1557) X (inL rfl) dL_law_1552 (by decide) (fun _ => ?_) (fun z => absurd rfl z)
    refine lv_goto (tgt := 1585) hx hb dL_law_1557 (by decide) ?_
    exact KK M3 _ _ _ _ _ (by omega) (by omega) I3 w3 (lv_sub hl [2, 3, 4, 5, 6] rfl)
end LAWC
