/-! the law's loop -/
section LOOP
variable {p : Program} {l : Launch} {e : Env} {s : State} {m : MethodId} {args : Array Value} {below : List Frame} {meth : Method} {c : Code} {Q : State → Prop}
variable {D : va_G} {aC : Nat → ClassId} {ad : Nat → Nat} {sg : SG} {A : Nat → Prop} {H0 : Heap} {b L : Nat} {xs : Nat → Int32}
set_option maxRecDepth 100000 in
set_option maxHeartbeats 4000000 in
theorem law_head {M : Mem} {H : Heap} {locs : List Loc} {ls : Array Slot} {cells slots : Nat} (X : CX p s m args c cL_law 7 RL D aC ad sg A H0) (hX : va_X b L xs s H0) (hbl : b < H0.size) (hbA : ¬ A b) (hL : L ≤ 3072) {i : Int} (hi : 0 ≤ i ∧ i ≤ 4000) (hl : lv_has ls 7 (lvL b ad i)) (w : WS D aC ad A H0 M H locs)
    (kt : (L : Int) - 6 < i → W p l e room_1 s m args below meth c H locs cells slots Q (F0 m 1591 ls [])) (kf : ¬ (L : Int) - 6 < i → W p l e room_1 s m args below meth c H locs cells slots Q (F0 m 33 ls [])) : W p l e room_1 s m args below meth c H locs cells slots Q (F0 m 23 ls []) := by
  have hx := X.1.1
  have hb := X.1.2.1
  refine lv_iload hx hb dL_law_23 (lv_at hl 4 rfl) ?_
  refine lv_aload_n hx hb dL_law_25 rfl (lv_at hl 0 rfl) ?_
  refine va_slen hx hb hX hbl hbA w.2.1 dL_law_26 ?_
  rw [show Int32.ofNat L = i2 (L : Int) from rfl]
  refine g_bipush X dL_law_27 (by decide) ?_
  refine g_isub X dL_law_29 ?_
  rw [show wrap ((L : Int) - 6) = (L : Int) - 6 from wrap_of (by omega) (by omega)]
  exact g_icmp_gt (tgt := 1591) X ⟨by omega, by omega⟩ ⟨by omega, by omega⟩ dL_law_30 (by decide) kt kf
set_option maxRecDepth 100000 in
set_option maxHeartbeats 8000000 in
theorem law_call (hl0 : l.stackTraces = false) (hZ : vxZ A s s.heap) (hN : vxN s) {M : Mem} {H : Heap} {locs : List Loc} {ls : Array Slot} {cells slots : Nat} (X : CX p s m args c cL_law 7 RL D aC ad sg A H0) (hX : va_X b L xs s H0) (hbl : b < H0.size) (hbA : ¬ A b) {i : Int} (hi : 0 ≤ i ∧ i + 6 ≤ (L : Int) ∧ L ≤ 3072) (I : Inv M) (hl : lv_has ls 7 (lvL b ad i)) (w : WS D aC ad A H0 M H locs) (hc : cells + 2 ≤ room_1.cells ∧ slots + 9 ≤ room_1.slots) (KK : ∀ (M' : Mem) (H' : Heap) (locs' : List Loc) (ls' : Array Slot) (cells' slots' : Nat), cells' ≤ cells + 2 → slots' ≤ slots + 9 → Inv M' → WS D aC ad A H0 M' H' locs' → lv_has ls' 7 (lvL b ad i) → W p l e room_1 s m args below meth c H' locs' cells' slots' Q (F0 m 1585 ls' [])) : W p l e room_1 s m args below meth c H locs cells slots Q (F0 m 33 ls []) := by
  have hx := X.1.1
  have hb := X.1.2.1
  refine g_sc0 X w hX hbl hbA (lv_at hl 0 rfl) (lv_at hl 4 rfl) hi dL_law_33 dL_law_34 dL_law_36 ?_
  refine g_bipush X dL_law_37 (by decide) ?_
  refine g_iand X dL_law_39 ?_
  have hv : inR (band (sc xs i 0) 63) := inR_toInt _
  generalize band (sc xs i 0) 63 = v at hv ⊢
  by_cases h0 : v = 0
  · exact g_tin (k := 0) (off := 172) (tgt := 212) X h0 hv (by decide) (by decide) rfl dL_law_40 (by decide) (q_child X hX hbl hbA hi I hl w hc KK)
  by_cases h1 : v = 1
  · exact g_tin (k := 1) (off := 221) (tgt := 261) X h1 hv (by decide) (by decide) rfl dL_law_40 (by decide) (q_mark X hX hbl hbA hi I hl w hc KK)
  by_cases h2 : v = 2
  · exact g_tin (k := 2) (off := 282) (tgt := 322) X h2 hv (by decide) (by decide) rfl dL_law_40 (by decide) (q_wish X hX hbl hbA hi I hl w hc KK)
  by_cases h3 : v = 3
  · exact g_tin (k := 3) (off := 331) (tgt := 371) X h3 hv (by decide) (by decide) rfl dL_law_40 (by decide) (q_bar X hX hbl hbA hi I hl w hc KK)
  by_cases h4 : v = 4
  · exact g_tin (k := 4) (off := 396) (tgt := 436) X h4 hv (by decide) (by decide) rfl dL_law_40 (by decide) (q_twins X hX hbl hbA hi I hl w hc KK)
  by_cases h5 : v = 5
  · exact g_tin (k := 5) (off := 461) (tgt := 501) X h5 hv (by decide) (by decide) rfl dL_law_40 (by decide) (q_not X hX hbl hbA hi I hl w hc KK)
  by_cases h6 : v = 6
  · exact g_tin (k := 6) (off := 526) (tgt := 566) X h6 hv (by decide) (by decide) rfl dL_law_40 (by decide) (q_classes X hX hbl hbA hi I hl w hc KK)
  by_cases h7 : v = 7
  · exact g_tin (k := 7) (off := 551) (tgt := 591) X h7 hv (by decide) (by decide) rfl dL_law_40 (by decide) (q_room X hX hbl hbA hi I hl w hc KK)
  by_cases h8 : v = 8
  · exact g_tin (k := 8) (off := 588) (tgt := 628) X h8 hv (by decide) (by decide) rfl dL_law_40 (by decide) (q_feed X hX hbl hbA hi I hl w hc KK)
  by_cases h9 : v = 9
  · exact g_tin (k := 9) (off := 661) (tgt := 701) X h9 hv (by decide) (by decide) rfl dL_law_40 (by decide) (q_end X hX hbl hbA hi I hl w hc KK)
  by_cases h10 : v = 10
  · exact g_tin (k := 10) (off := 686) (tgt := 726) X h10 hv (by decide) (by decide) rfl dL_law_40 (by decide) (q_rule X hX hbl hbA hi I hl w hc KK)
  by_cases h11 : v = 11
  · exact g_tin (k := 11) (off := 699) (tgt := 739) X h11 hv (by decide) (by decide) rfl dL_law_40 (by decide) (q_place X hX hbl hbA hi I hl w hc KK)
  by_cases h12 : v = 12
  · exact g_tin (k := 12) (off := 712) (tgt := 752) X h12 hv (by decide) (by decide) rfl dL_law_40 (by decide) (q_holds X hX hbl hbA hi I hl w hc KK)
  by_cases h13 : v = 13
  · exact g_tin (k := 13) (off := 773) (tgt := 813) X h13 hv (by decide) (by decide) rfl dL_law_40 (by decide) (q_day X hX hbl hbA hi I hl w hc KK)
  by_cases h14 : v = 14
  · exact g_tin (k := 14) (off := 798) (tgt := 838) X h14 hv (by decide) (by decide) rfl dL_law_40 (by decide) (q_plan X hX hbl hbA hi I hl w hc KK)
  by_cases h15 : v = 15
  · exact g_tin (k := 15) (off := 823) (tgt := 863) X h15 hv (by decide) (by decide) rfl dL_law_40 (by decide) (q_planned X hX hbl hbA hi I hl w hc KK)
  by_cases h16 : v = 16
  · exact g_tin (k := 16) (off := 860) (tgt := 900) X h16 hv (by decide) (by decide) rfl dL_law_40 (by decide) (q_keep X hX hbl hbA hi I hl w hc KK)
  by_cases h17 : v = 17
  · exact g_tin (k := 17) (off := 873) (tgt := 913) X h17 hv (by decide) (by decide) rfl dL_law_40 (by decide) (q_make X hX hbl hbA hi I hl w hc KK)
  by_cases h18 : v = 18
  · exact g_tin (k := 18) (off := 886) (tgt := 926) X h18 hv (by decide) (by decide) rfl dL_law_40 (by decide) (q_steps X hX hbl hbA hi I hl w hc KK)
  by_cases h19 : v = 19
  · exact g_tin (k := 19) (off := 899) (tgt := 939) X h19 hv (by decide) (by decide) rfl dL_law_40 (by decide) (q_late X hX hbl hbA hi I hl w hc KK)
  by_cases h20 : v = 20
  · exact g_tin (k := 20) (off := 924) (tgt := 964) X h20 hv (by decide) (by decide) rfl dL_law_40 (by decide) (q_change X hX hbl hbA hi I hl w hc KK)
  by_cases h21 : v = 21
  · exact g_tin (k := 21) (off := 937) (tgt := 977) X h21 hv (by decide) (by decide) rfl dL_law_40 (by decide) (q_classOf X hX hbl hbA hi I hl w hc KK)
  by_cases h22 : v = 22
  · exact g_tin (k := 22) (off := 962) (tgt := 1002) X h22 hv (by decide) (by decide) rfl dL_law_40 (by decide) (q_was X hX hbl hbA hi I hl w hc KK)
  by_cases h23 : v = 23
  · exact g_tin (k := 23) (off := 999) (tgt := 1039) X h23 hv (by decide) (by decide) rfl dL_law_40 (by decide) (q_served X hX hbl hbA hi I hl w hc KK)
  by_cases h24 : v = 24
  · exact g_tin (k := 24) (off := 1024) (tgt := 1064) X h24 hv (by decide) (by decide) rfl dL_law_40 (by decide) (q_harm X hX hbl hbA hi I hl w hc KK)
  by_cases h25 : v = 25
  · exact g_tin (k := 25) (off := 1049) (tgt := 1089) X h25 hv (by decide) (by decide) rfl dL_law_40 (by decide) (q_allowed X hX hbl hbA hi I hl w hc KK)
  by_cases h26 : v = 26
  · exact g_tin (k := 26) (off := 1074) (tgt := 1114) X h26 hv (by decide) (by decide) rfl dL_law_40 (by decide) (q_swaps X hX hbl hbA hi I hl w hc KK)
  by_cases h27 : v = 27
  · exact g_tin (k := 27) (off := 1087) (tgt := 1127) X h27 hv (by decide) (by decide) rfl dL_law_40 (by decide) (q_swap X hX hbl hbA hi I hl w hc KK)
  by_cases h28 : v = 28
  · exact g_tin (k := 28) (off := 1124) (tgt := 1164) X h28 hv (by decide) (by decide) rfl dL_law_40 (by decide) (q_lie hl0 hZ hN X hX hbl hbA hi I hl w hc KK)
  by_cases h29 : v = 29
  · exact g_tin (k := 29) (off := 1192) (tgt := 1232) X h29 hv (by decide) (by decide) rfl dL_law_40 (by decide) (q_lonely X hX hbl hbA hi I hl w hc KK)
  by_cases h30 : v = 30
  · exact g_tin (k := 30) (off := 1217) (tgt := 1257) X h30 hv (by decide) (by decide) rfl dL_law_40 (by decide) (q_ring X hX hbl hbA hi I hl w hc KK)
  by_cases h31 : v = 31
  · exact g_tin (k := 31) (off := 1242) (tgt := 1282) X h31 hv (by decide) (by decide) rfl dL_law_40 (by decide) (q_helper X hX hbl hbA hi I hl w hc KK)
  by_cases h32 : v = 32
  · exact g_tin (k := 32) (off := 1267) (tgt := 1307) X h32 hv (by decide) (by decide) rfl dL_law_40 (by decide) (q_help X hX hbl hbA hi I hl w hc KK)
  by_cases h33 : v = 33
  · exact g_tin (k := 33) (off := 1292) (tgt := 1332) X h33 hv (by decide) (by decide) rfl dL_law_40 (by decide) (q_word X hX hbl hbA hi I hl w hc KK)
  by_cases h34 : v = 34
  · exact g_tin (k := 34) (off := 1341) (tgt := 1381) X h34 hv (by decide) (by decide) rfl dL_law_40 (by decide) (q_close X hX hbl hbA hi I hl w hc KK)
  by_cases h35 : v = 35
  · exact g_tin (k := 35) (off := 1354) (tgt := 1394) X h35 hv (by decide) (by decide) rfl dL_law_40 (by decide) (q_regret X hX hbl hbA hi I hl w hc KK)
  by_cases h36 : v = 36
  · exact g_tin (k := 36) (off := 1391) (tgt := 1431) X h36 hv (by decide) (by decide) rfl dL_law_40 (by decide) (q_scaled X hX hbl hbA hi I hl w hc KK)
  by_cases h37 : v = 37
  · exact g_tin (k := 37) (off := 1452) (tgt := 1492) X h37 hv (by decide) (by decide) rfl dL_law_40 (by decide) (q_of hl0 hZ hN X hX hbl hbA hi I hl w hc KK)
  by_cases h38 : v = 38
  · exact g_tin (k := 38) (off := 1520) (tgt := 1560) X h38 hv (by decide) (by decide) rfl dL_law_40 (by decide) (q_count X hX hbl hbA hi I hl w hc KK)
  exact g_tout (tgt := 1585) X hv (by omega) dL_law_40 (by decide) (KK M H locs ls cells slots (by omega) (by omega) I w hl)
set_option maxRecDepth 100000 in
set_option maxHeartbeats 4000000 in
theorem law_loop (hl0 : l.stackTraces = false) (hZ : vxZ A s s.heap) (hN : vxN s) (X : CX p s m args c cL_law 7 RL D aC ad sg A H0) (hX : va_X b L xs s H0) (hbl : b < H0.size) (hbA : ¬ A b) (hL : L ≤ 3072)
    (HE : ∀ (H : Heap) (locs : List Loc) (ls : Array Slot) (cells slots : Nat), cells ≤ 600000 → slots ≤ 7000000 → va_S A H0 H locs → W p l e room_1 s m args below meth c H locs cells slots Q (F0 m 1591 ls [])) :
    ∀ (n : Nat) (i : Int) (M : Mem) (H : Heap) (locs : List Loc) (ls : Array Slot) (cells slots : Nat), 0 ≤ i → i ≤ 3078 → (L : Int) - i < 6 * (n : Int) → cells + 2 * n ≤ 600000 → slots + 9 * n ≤ 7000000 → Inv M → WS D aC ad A H0 M H locs → lv_has ls 7 (lvL b ad i) → W p l e room_1 s m args below meth c H locs cells slots Q (F0 m 23 ls []) := by
  have hx := X.1.1
  have hb := X.1.2.1
  have er : room_1.cells = 601024 := rfl
  have es : room_1.slots = 7293034 := rfl
  intro n
  induction n with
  | zero =>
    intro i M H locs ls cells slots h0 h1 h2 h3 h4 I w hl
    exact law_head X hX hbl hbA hL ⟨h0, by omega⟩ hl w (fun _ => HE H locs ls cells slots (by omega) (by omega) w.2.1) (fun z => absurd z (by omega))
  | succ n ih =>
    intro i M H locs ls cells slots h0 h1 h2 h3 h4 I w hl
    refine law_head X hX hbl hbA hL ⟨h0, by omega⟩ hl w (fun _ => HE H locs ls cells slots (by omega) (by omega) w.2.1) (fun z => ?_)
    refine law_call hl0 hZ hN X hX hbl hbA (i := i) ⟨h0, by omega, hL⟩ I hl w ⟨by omega, by omega⟩ (fun M' H' locs' ls' cells' slots' c1 c2 I' w' hl' => ?_)
    have e1 : wrap (i + 6) = i + 6 := wrap_of (by omega) (by omega)
    refine lv_iinc (v := i2 (i + 6)) (lv' := [(4, .int (i2 (i + 6))), (0, .ref b), (1, .ref (ad 0)), (2, .ref (ad 80)), (3, .ref (ad 120))]) hx hb dL_law_1585 hl' (k := 4) rfl (by rw [← e1]; exact i2_add _ _) (by decide) rfl (fun ls2 hl2 => ?_)
    refine lv_goto (tgt := 23) hx hb dL_law_1588 (by decide) ?_
    exact ih (i + 6) M' H' locs' ls2 cells' slots' (by omega) (by omega) (by omega) (by omega) (by omega) I' w' (lv_sub hl2 [1, 2, 3, 4, 0] rfl)
end LOOP
