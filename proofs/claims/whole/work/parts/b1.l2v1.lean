/-! the law's array of one long -/
theorem i2_long {x : Int} (h : inR x) : (i2 x).toInt64 = Int64.ofInt x := by
  unfold inR at h
  apply Int64.toInt_inj.mp
  rw [Int32.toInt_toInt64, Int64.toInt_ofInt_of_le (by omega) (by omega)]
  show (Int32.ofInt x).toInt = x
  exact Int32.toInt_ofInt_of_le (by omega) (by omega)
section LLA
variable {p : Program} {l : Launch} {e : Env} {R : Room} {s : State} {m : MethodId} {args : Array Value} {below : List Frame} {meth : Method} {c : Code} {H : Heap} {locs : List Loc} {cells slots : Nat} {Q : State → Prop}
variable {cc : ByteArray} {nL : Nat} {own : String} {D : va_G} {aC : Nat → ClassId} {ad : Nat → Nat} {sg : SG} {A : Nat → Prop} {H0 : Heap} {M : Mem} {pc : Nat} {ls : Array Slot} {rest : List Value}
theorem wl_long {a n i : Nat} {x : Int} (ho : KD[a]? = some (.inr (4, n))) : (wl aC ad M).set a (ad a, .inl (aC 4, n, .inr (.inl (vp_updL (fun j => Int64.ofInt (M a j)) i (Int64.ofInt x))))) = wl aC ad (mup M a i x) := by
  refine wl_set (KD_lt ho) (fun c' hc j => (mup_ne hc j).symm) ?_
  rw [enc_l ho]
  congr 5
  funext j
  show vp_updL (fun j => Int64.ofInt (M a j)) i (Int64.ofInt x) j = Int64.ofInt (mup M a i x a j)
  rw [mup_row]
  unfold vp_updL
  by_cases hj : j = i <;> simp [hj]
theorem g_last {a n : Nat} {i x : Int} (X : CX p s m args c cc nL own D aC ad sg A H0) (w : WS D aC ad A H0 M H locs) (ho : KD[a]? = some (.inr (4, n))) (hr : inR i) (hin : 0 ≤ i ∧ i < n) (hx0 : inR x) (dg : decode cc pc = .ok (.lastore, 1))
    (kk : ∀ (H1 : Heap) (locs1 : List Loc), WS D aC ad A H0 (mup M a i.toNat x) H1 locs1 → W p l e R s m args below meth c H1 locs1 cells slots Q (F0 m (pc + 1) ls rest)) : W p l e R s m args below meth c H locs cells slots Q (F0 m pc ls (.long (Int64.ofInt x) :: .int (i2 i) :: .ref (ad a) :: rest)) := by
  obtain ⟨⟨hx, hb, hml, hown, hts⟩, hK, hi, hA, hA2, hSt⟩ := X
  refine va_last hx hb hK w.1 (wl_D hi hA) w.2.1 a 4 ((wl_get (KD_lt ho)).trans (by rw [enc_l ho])) rfl (i2_in hr hin) dg (fun H1 locs1 hP hD hS => ?_)
  rw [i2_clamp hr, wl_long ho] at hP
  exact kk H1 locs1 ⟨hP, hS, w.2.2.up hx0⟩
theorem g_i2l {x : Int} (X : CX p s m args c cc nL own D aC ad sg A H0) (hx0 : inR x) (dg : decode cc pc = .ok (.i2l, 1)) (kk : W p l e R s m args below meth c H locs cells slots Q (F0 m (pc + 1) ls (.long (Int64.ofInt x) :: rest))) : W p l e R s m args below meth c H locs cells slots Q (F0 m pc ls (.int (i2 x) :: rest)) :=
  lv_i2l X.1.1 X.1.2.1 dg (i2_long hx0) kk
end LLA
