/-! Methods: gc_correctionFor, gc_valueWith, gc_run, gc_runTo, st_makeCalibration, gc_calibrate, gc_setPrescale, gc_maySet, gc_set, gc_addSegment, gc_dropSegment, gc_drop, gc_undo, ab_setCharAt, sb_setCharAt, gc_printMeasurement, gc_restoreState, gm_begins. -/
def B_gc_correctionFor : bd := (⟨"GateCounter", "correctionFor", "(I)I"⟩, prog_1_method_39_code, 7, (some .int), [], 5, 8)
theorem m_gc_correctionFor : mV B_gc_correctionFor 5 1 := ⟨⟨⟨by decide +kernel, Or.inl rfl⟩, rfl, (List.mem_of_getElem? (i := 1458) (by decide +kernel)), by decide +kernel, (List.mem_of_getElem? (i := 95) (by decide +kernel)), ⟨by decide, by decide⟩, by decide⟩, rfl, (by unfold nar; decide +kernel), (List.mem_of_getElem? (i := 1456) (by decide +kernel)), rfl, (List.mem_of_getElem? (i := 1457) (by decide +kernel))⟩
noncomputable def Y_gc_correctionFor_63 (N : Nat)  (i63 : shp → vl → Nat → Int32 → Int32 → Int32 → Int32 → Int32 → Option (Nat ⊕ (Int32 × shp × vl)))  (S : shp) (v : vl) (p0 : Nat) (p1 : Int32) (p2 : Int32) (p3 : Int32) (p4 : Int32) (p5 : Int32) : Option (Nat ⊕ (Int32 × shp × vl)) :=
  (if (J 99) < p5 then some (.inr (p3, S, v)) else grd (kin S p0 = some (0, 5)) <| (gr S p0 5).bind fun r24 => grd (kin S r24 = some (0, 4)) <| (F_st_valueOf r24 p2 (gi v r24 1) p5 S v).bind fun x27 => (F_ma_abs (x27 - p1) S v).bind fun x28 => (if x28 < p4 then i63 S v p0 p1 p2 p5 x28 (p5 + (J 1)) else i63 S v p0 p1 p2 p3 p4 (p5 + (J 1))))
noncomputable def K_gc_correctionFor_63 (N : Nat)  (n : Nat)  : shp → vl → Nat → Int32 → Int32 → Int32 → Int32 → Int32 → Option (Nat ⊕ (Int32 × shp × vl)) :=
  Nat.rec (motive := fun _ => shp → vl → Nat → Int32 → Int32 → Int32 → Int32 → Int32 → Option (Nat ⊕ (Int32 × shp × vl))) (fun _ _ _ _ _ _ _ _ => none) (fun _ i => Y_gc_correctionFor_63 N  i ) n
theorem sY_gc_correctionFor_63 (N : Nat) (S0 : shp) (v0 : vl)  (i63 : shp → vl → Nat → Int32 → Int32 → Int32 → Int32 → Int32 → Option (Nat ⊕ (Int32 × shp × vl)))   (j63 : ∀ (S : shp) (v : vl) (p0 : Nat) (p1 : Int32) (p2 : Int32) (p3 : Int32) (p4 : Int32) (p5 : Int32), SimK B_gc_correctionFor 63 [some (.ref p0), some (.int p1), some (.int p2), some (.int p3), some (.int p4), some (.int p5), none] [] S v (i63 S v p0 p1 p2 p3 p4 p5) (ρzi S0 v0)) (S : shp) (v : vl) (p0 : Nat) (p1 : Int32) (p2 : Int32) (p3 : Int32) (p4 : Int32) (p5 : Int32) : SimK B_gc_correctionFor 63 [some (.ref p0), some (.int p1), some (.int p2), some (.int p3), some (.int p4), some (.int p5), none] [] S v (Y_gc_correctionFor_63 N  i63  S v p0 p1 p2 p3 p4 p5) (ρzi S0 v0) := by
  unfold Y_gc_correctionFor_63
  refine sim_seg [(.iload 5, 0, 0, 0), (.bipush 99, 0, 0, 99)] [] (q := 67) (L' := [some (.ref p0), some (.int p1), some (.int p2), some (.int p3), some (.int p4), some (.int p5), none]) (st' := [.int (J 99), .int p5]) (v1 := v) (by decide +kernel) rfl trivial ?_
  refine sim_gt (o := 47) (tg := 114) (f := 70) (by decide +kernel) rfl rfl (fun _ => ?_) (fun _ => ?_)
  · refine sim_seg [(.iload_n 3, 0, 0, 0)] [] (q := 115) (L' := [some (.ref p0), some (.int p1), some (.int p2), some (.int p3), some (.int p4), some (.int p5), none]) (st' := [.int p3]) (v1 := v) (by decide +kernel) rfl trivial ?_
    exact sim_iret (by decide +kernel) rfl rfl rfl
  · refine sim_grd fun h23 => ?_
    refine sim_bind fun r24 h25 => ?_
    refine sim_grd fun h26 => ?_
    refine sim_seg [(.aload_n 0, 0, 0, 0), (.getfield 26, 5, 5, 0), (.iload_n 2, 0, 0, 0), (.aload_n 0, 0, 0, 0), (.getfield 26, 5, 5, 0), (.getfield 124, 4, 1, 0), (.iload 5, 0, 0, 0)] [r24, r24] (q := 84) (L' := [some (.ref p0), some (.int p1), some (.int p2), some (.int p3), some (.int p4), some (.int p5), none]) (st' := [.int p5, .int (gi v r24 1), .int p2, .ref r24]) (v1 := v) (by decide +kernel) rfl ⟨⟨h23, h25⟩, ⟨h23, h25⟩, h26, trivial⟩ ?_
    refine sc_ri (pc3 := 87) (cf_V (idx := 258) (ci := 4) [.int p2, .int (gi v r24 1), .int p5] m_st_valueOf (by decide) ⟨by decide, by decide⟩ (List.mem_of_getElem? (i := 1451) (by decide +kernel)) rfl (Nat.le_of_ble_eq_true rfl) h26 (by decide +kernel) (Nat.le_of_ble_eq_true rfl) rfl) (ok_st_valueOf r24 p2 (gi v r24 1) p5 S v) rfl (fun x27 => ?_)
    refine sim_seg [(.iload_n 1, 0, 0, 0), (.isub, 0, 0, 0)] [] (q := 89) (L' := [some (.ref p0), some (.int p1), some (.int p2), some (.int p3), some (.int p4), some (.int p5), none]) (st' := [.int (x27 - p1)]) (v1 := v) (by decide +kernel) rfl trivial ?_
    refine sc_ri (pc3 := 92) (cf_S (idx := 249) [.int (x27 - p1)] m_ma_abs ⟨by decide, by decide⟩ (List.mem_of_getElem? (i := 799) (by decide +kernel)) rfl (Nat.le_of_ble_eq_true rfl) (by decide +kernel) (Nat.le_of_ble_eq_true rfl) rfl) (ok_ma_abs (x27 - p1) S v) rfl (fun x28 => ?_)
    refine sim_seg [(.istore 6, 0, 0, 0)] [] (q := 94) (L' := [some (.ref p0), some (.int p1), some (.int p2), some (.int p3), some (.int p4), some (.int p5), some (.int x28)]) (st' := []) (v1 := v) (by decide +kernel) rfl trivial ?_
    refine sim_seg [(.iload 6, 0, 0, 0), (.iload 4, 0, 0, 0)] [] (q := 98) (L' := [some (.ref p0), some (.int p1), some (.int p2), some (.int p3), some (.int p4), some (.int p5), some (.int x28)]) (st' := [.int p4, .int x28]) (v1 := v) (by decide +kernel) rfl trivial ?_
    refine sim_ge (o := 10) (tg := 108) (f := 101) (by decide +kernel) rfl rfl (fun _ => ?_) (fun _ => ?_)
    · refine sim_seg [(.iload 6, 0, 0, 0), (.istore 4, 0, 0, 0)] [] (q := 105) (L' := [some (.ref p0), some (.int p1), some (.int p2), some (.int p3), some (.int x28), some (.int p5), some (.int x28)]) (st' := []) (v1 := v) (by decide +kernel) rfl trivial ?_
      refine sim_seg [(.iload 5, 0, 0, 0), (.istore_n 3, 0, 0, 0)] [] (q := 108) (L' := [some (.ref p0), some (.int p1), some (.int p2), some (.int p5), some (.int x28), some (.int p5), some (.int x28)]) (st' := []) (v1 := v) (by decide +kernel) rfl trivial ?_
      refine sim_seg [(.iinc 5 1, 0, 0, 1)] [] (q := 111) (L' := [some (.ref p0), some (.int p1), some (.int p2), some (.int p5), some (.int x28), some (.int (p5 + (J 1))), some (.int x28)]) (st' := []) (v1 := v) (by decide +kernel) rfl trivial ?_
      refine sim_seg [(.goto (-48), 0, 0, 0)] [] (q := 63) (L' := [some (.ref p0), some (.int p1), some (.int p2), some (.int p5), some (.int x28), some (.int (p5 + (J 1))), some (.int x28)]) (st' := []) (v1 := v) (by decide +kernel) rfl trivial ?_
      exact sim_wk (L0 := [some (.ref p0), some (.int p1), some (.int p2), some (.int p5), some (.int x28), some (.int (p5 + (J 1))), none]) ⟨rfl, rfl, rfl, rfl, rfl, rfl, trivial⟩ (j63 S v p0 p1 p2 p5 x28 (p5 + (J 1)))
    · refine sim_seg [(.iinc 5 1, 0, 0, 1)] [] (q := 111) (L' := [some (.ref p0), some (.int p1), some (.int p2), some (.int p3), some (.int p4), some (.int (p5 + (J 1))), some (.int x28)]) (st' := []) (v1 := v) (by decide +kernel) rfl trivial ?_
      refine sim_seg [(.goto (-48), 0, 0, 0)] [] (q := 63) (L' := [some (.ref p0), some (.int p1), some (.int p2), some (.int p3), some (.int p4), some (.int (p5 + (J 1))), some (.int x28)]) (st' := []) (v1 := v) (by decide +kernel) rfl trivial ?_
      exact sim_wk (L0 := [some (.ref p0), some (.int p1), some (.int p2), some (.int p3), some (.int p4), some (.int (p5 + (J 1))), none]) ⟨rfl, rfl, rfl, rfl, rfl, rfl, trivial⟩ (j63 S v p0 p1 p2 p3 p4 (p5 + (J 1)))
theorem sR_gc_correctionFor_63 (N : Nat) (S0 : shp) (v0 : vl)    (n : Nat) : ∀ (S : shp) (v : vl) (p0 : Nat) (p1 : Int32) (p2 : Int32) (p3 : Int32) (p4 : Int32) (p5 : Int32), SimK B_gc_correctionFor 63 [some (.ref p0), some (.int p1), some (.int p2), some (.int p3), some (.int p4), some (.int p5), none] [] S v (K_gc_correctionFor_63 N  n  S v p0 p1 p2 p3 p4 p5) (ρzi S0 v0) := by
  induction n with
  | zero => intro S v p0 p1 p2 p3 p4 p5; exact sim_none
  | succ k ih => intro S v p0 p1 p2 p3 p4 p5; exact sY_gc_correctionFor_63 N S0 v0  _   ih S v p0 p1 p2 p3 p4 p5
theorem sK_gc_correctionFor_63 (N : Nat) (S0 : shp) (v0 : vl)   (n : Nat) (S : shp) (v : vl) (p0 : Nat) (p1 : Int32) (p2 : Int32) (p3 : Int32) (p4 : Int32) (p5 : Int32) : SimK B_gc_correctionFor 63 [some (.ref p0), some (.int p1), some (.int p2), some (.int p3), some (.int p4), some (.int p5), none] [] S v (K_gc_correctionFor_63 N  n  S v p0 p1 p2 p3 p4 p5) (ρzi S0 v0) := sR_gc_correctionFor_63 N S0 v0   n  S v p0 p1 p2 p3 p4 p5
noncomputable def F_gc_correctionFor (N : Nat) (a0 : Nat) (b1 : Int32) (S : shp) (v : vl) : Option (Nat ⊕ (Int32 × shp × vl)) :=
  bx (F_gc_requireWithin b1 (J 0) (J 2000000) S v) (fun k0 => some (.inl k0)) fun _ => grd (kin S a0 = some (0, 5)) <| (gr S a0 6).bind fun r2 => (F_gc_fresh N a0 r2 S v).bind fun (q4, S5, w6) => oc2 q4 none fun r8 => grd (kin S5 r8 = some (0, 4)) <| (F_st_measureByGate N r8 S5 w6).bind fun (x10, S11, w12) => (if x10 = (J 0) then (gr S11 a0 6).bind fun r14 => grd (kin S11 r14 = some (0, 4)) <| (F_st_latestNumber N r14 (J 3) S11 w12).bind fun x17 => (gr S11 a0 5).bind fun r18 => grd (kin S11 r18 = some (0, 4)) <| (F_st_valueOf r18 x17 (gi w12 r18 1) (J (-99)) S11 w12).bind fun x21 => (F_ma_abs (x21 - b1) S11 w12).bind fun x22 => K_gc_correctionFor_63 N  N S11 w12 a0 b1 x17 (J (-99)) x22 (J (-98)) else some (.inr ((J (-100)), S11, w12)))
theorem ok_gc_correctionFor (N : Nat) (a0 : Nat) (b1 : Int32) (S : shp) (v : vl) : SimK B_gc_correctionFor 0 (entB (bN B_gc_correctionFor) [.ref a0, .int b1]) [] S v (F_gc_correctionFor N a0 b1 S v) (ρzi S v) := by
  show SimK B_gc_correctionFor 0 [some (.ref a0), some (.int b1), none, none, none, none, none] [] S v (F_gc_correctionFor N a0 b1 S v) _
  unfold F_gc_correctionFor
  refine sim_seg [(.iload_n 1, 0, 0, 0), (.iconst 0, 0, 0, 0), (.ldc 216, 0, 0, 2000000)] [] (q := 4) (L' := [some (.ref a0), some (.int b1), none, none, none, none, none]) (st' := [.int (J 2000000), .int (J 0), .int b1]) (v1 := v) (by decide +kernel) rfl trivial ?_
  refine sc_xv (pc3 := 7) (cf_S (idx := 170) [.int b1, .int (J 0), .int (J 2000000)] m_gc_requireWithin ⟨by decide, by decide⟩ (List.mem_of_getElem? (i := 1321) (by decide +kernel)) rfl (Nat.le_of_ble_eq_true rfl) (by decide +kernel) (Nat.le_of_ble_eq_true rfl) rfl) (ok_gc_requireWithin b1 (J 0) (J 2000000) S v) rfl rfl (fun k0 b hb => by cases hb; rfl) (fun _ => ?_)
  refine sim_grd fun h1 => ?_
  refine sim_bind fun r2 h3 => ?_
  refine sim_seg [(.aload_n 0, 0, 0, 0), (.aload_n 0, 0, 0, 0), (.getfield 30, 5, 6, 0)] [r2] (q := 12) (L' := [some (.ref a0), some (.int b1), none, none, none, none, none]) (st' := [.ref r2, .ref a0]) (v1 := v) (by decide +kernel) rfl ⟨⟨h1, h3⟩, trivial⟩ ?_
  refine sc_gq (pc3 := 15) (cf_V (idx := 196) (ci := 5) [.ref r2] m_gc_fresh (by decide) ⟨by decide, by decide⟩ (List.mem_of_getElem? (i := 645) (by decide +kernel)) rfl (Nat.le_of_ble_eq_true rfl) h1 (by decide +kernel) (Nat.le_of_ble_eq_true rfl) rfl) (ok_gc_fresh N a0 r2 S v) rfl (fun q4 S5 w6 h7 => ?_)
  refine sim_oc2 (fun _ => sim_none) (fun r8 _ => ?_)
  refine sim_grd fun h9 => ?_
  refine sc_gi (pc3 := 18) (cf_V (idx := 232) (ci := 4) [] m_st_measureByGate (by decide) ⟨by decide, by decide⟩ (List.mem_of_getElem? (i := 761) (by decide +kernel)) rfl (Nat.le_of_ble_eq_true rfl) h9 (by decide +kernel) (Nat.le_of_ble_eq_true rfl) rfl) (ok_st_measureByGate N r8 S5 w6) rfl (fun x10 S11 w12 h13 => ?_)
  refine sim_eq0 (o := 6) (tg := 24) (f := 21) (by decide +kernel) rfl rfl (fun _ => ?_) (fun _ => ?_)
  · refine sim_bind fun r14 h15 => ?_
    refine sim_seg [(.aload_n 0, 0, 0, 0), (.getfield 30, 5, 6, 0), (.iconst 3, 0, 0, 3)] [r14] (q := 29) (L' := [some (.ref a0), some (.int b1), none, none, none, none, none]) (st' := [.int (J 3), .ref r14]) (v1 := w12) (by decide +kernel) rfl ⟨⟨(h13.2.2.2.2 _ _ (h7.2.2.2.2 _ _ h1)), h15⟩, trivial⟩ ?_
    refine sim_grd fun h16 => ?_
    refine sc_ri (pc3 := 32) (cf_V (idx := 235) (ci := 4) [.int (J 3)] m_st_latestNumber (by decide) ⟨by decide, by decide⟩ (List.mem_of_getElem? (i := 779) (by decide +kernel)) rfl (Nat.le_of_ble_eq_true rfl) h16 (by decide +kernel) (Nat.le_of_ble_eq_true rfl) rfl) (ok_st_latestNumber N r14 (J 3) S11 w12) rfl (fun x17 => ?_)
    refine sim_seg [(.istore_n 2, 0, 0, 0)] [] (q := 33) (L' := [some (.ref a0), some (.int b1), some (.int x17), none, none, none, none]) (st' := []) (v1 := w12) (by decide +kernel) rfl trivial ?_
    refine sim_seg [(.bipush (-99), 0, 0, (-99)), (.istore_n 3, 0, 0, 0)] [] (q := 36) (L' := [some (.ref a0), some (.int b1), some (.int x17), some (.int (J (-99))), none, none, none]) (st' := []) (v1 := w12) (by decide +kernel) rfl trivial ?_
    refine sim_bind fun r18 h19 => ?_
    refine sim_grd fun h20 => ?_
    refine sim_seg [(.aload_n 0, 0, 0, 0), (.getfield 26, 5, 5, 0), (.iload_n 2, 0, 0, 0), (.aload_n 0, 0, 0, 0), (.getfield 26, 5, 5, 0), (.getfield 124, 4, 1, 0), (.iload_n 3, 0, 0, 0)] [r18, r18] (q := 49) (L' := [some (.ref a0), some (.int b1), some (.int x17), some (.int (J (-99))), none, none, none]) (st' := [.int (J (-99)), .int (gi w12 r18 1), .int x17, .ref r18]) (v1 := w12) (by decide +kernel) rfl ⟨⟨(h13.2.2.2.2 _ _ (h7.2.2.2.2 _ _ h1)), h19⟩, ⟨(h13.2.2.2.2 _ _ (h7.2.2.2.2 _ _ h1)), h19⟩, h20, trivial⟩ ?_
    refine sc_ri (pc3 := 52) (cf_V (idx := 258) (ci := 4) [.int x17, .int (gi w12 r18 1), .int (J (-99))] m_st_valueOf (by decide) ⟨by decide, by decide⟩ (List.mem_of_getElem? (i := 1451) (by decide +kernel)) rfl (Nat.le_of_ble_eq_true rfl) h20 (by decide +kernel) (Nat.le_of_ble_eq_true rfl) rfl) (ok_st_valueOf r18 x17 (gi w12 r18 1) (J (-99)) S11 w12) rfl (fun x21 => ?_)
    refine sim_seg [(.iload_n 1, 0, 0, 0), (.isub, 0, 0, 0)] [] (q := 54) (L' := [some (.ref a0), some (.int b1), some (.int x17), some (.int (J (-99))), none, none, none]) (st' := [.int (x21 - b1)]) (v1 := w12) (by decide +kernel) rfl trivial ?_
    refine sc_ri (pc3 := 57) (cf_S (idx := 249) [.int (x21 - b1)] m_ma_abs ⟨by decide, by decide⟩ (List.mem_of_getElem? (i := 799) (by decide +kernel)) rfl (Nat.le_of_ble_eq_true rfl) (by decide +kernel) (Nat.le_of_ble_eq_true rfl) rfl) (ok_ma_abs (x21 - b1) S11 w12) rfl (fun x22 => ?_)
    refine sim_seg [(.istore 4, 0, 0, 0)] [] (q := 59) (L' := [some (.ref a0), some (.int b1), some (.int x17), some (.int (J (-99))), some (.int x22), none, none]) (st' := []) (v1 := w12) (by decide +kernel) rfl trivial ?_
    refine sim_seg [(.bipush (-98), 0, 0, (-98)), (.istore 5, 0, 0, 0)] [] (q := 63) (L' := [some (.ref a0), some (.int b1), some (.int x17), some (.int (J (-99))), some (.int x22), some (.int (J (-98))), none]) (st' := []) (v1 := w12) (by decide +kernel) rfl trivial ?_
    exact sK_gc_correctionFor_63 N S v N S11 w12 a0 b1 x17 (J (-99)) x22 (J (-98))
  · refine sim_seg [(.bipush (-100), 0, 0, (-100))] [] (q := 23) (L' := [some (.ref a0), some (.int b1), none, none, none, none, none]) (st' := [.int (J (-100))]) (v1 := w12) (by decide +kernel) rfl trivial ?_
    exact sim_iret (by decide +kernel) rfl rfl rfl
def B_gc_valueWith : bd := (⟨"GateCounter", "valueWith", "(II)I"⟩, prog_1_method_40_code, 4, (some .int), [], 5, 8)
theorem m_gc_valueWith : mV B_gc_valueWith 5 2 := ⟨⟨⟨by decide +kernel, Or.inl rfl⟩, rfl, (List.mem_of_getElem? (i := 1465) (by decide +kernel)), by decide +kernel, (List.mem_of_getElem? (i := 95) (by decide +kernel)), ⟨by decide, by decide⟩, by decide⟩, rfl, (by unfold nar; decide +kernel), (List.mem_of_getElem? (i := 1463) (by decide +kernel)), rfl, (List.mem_of_getElem? (i := 1464) (by decide +kernel))⟩
noncomputable def F_gc_valueWith (a0 : Nat) (b1 : Int32) (b2 : Int32) (S : shp) (v : vl) : Option (Nat ⊕ Int32) :=
  grd (kin S a0 = some (0, 5)) <| bx (F_gc_found a0 b1 S v) (fun k0 => some (.inl k0)) fun q2 => oc2 q2 none fun r3 => bx (F_gc_requireWithin b2 (J (-99)) (J 99) S v) (fun k0 => some (.inl k0)) fun _ => grd (kin S r3 = some (0, 1)) <| (if (gi v r3 0) = (J 0) then (gr S a0 5).bind fun r5 => grd (kin S r5 = some (0, 4)) <| (F_st_valueOf r5 (gi v r3 3) (gi v r3 5) b2 S v).bind fun x8 => some (.inr x8) else (gr S a0 5).bind fun r9 => grd (kin S r9 = some (0, 4)) <| (F_st_valueOf r9 (gi v r3 5) (gi v r3 3) b2 S v).bind fun x12 => some (.inr x12))
theorem ok_gc_valueWith (a0 : Nat) (b1 : Int32) (b2 : Int32) (S : shp) (v : vl) : SimK B_gc_valueWith 0 (entB (bN B_gc_valueWith) [.ref a0, .int b1, .int b2]) [] S v (F_gc_valueWith a0 b1 b2 S v) (ρxi S v) := by
  show SimK B_gc_valueWith 0 [some (.ref a0), some (.int b1), some (.int b2), none] [] S v (F_gc_valueWith a0 b1 b2 S v) _
  unfold F_gc_valueWith
  refine sim_seg [(.aload_n 0, 0, 0, 0), (.iload_n 1, 0, 0, 0)] [] (q := 2) (L' := [some (.ref a0), some (.int b1), some (.int b2), none]) (st' := [.int b1, .ref a0]) (v1 := v) (by decide +kernel) rfl trivial ?_
  refine sim_grd fun h1 => ?_
  refine sc_xq (pc3 := 5) (cf_V (idx := 166) (ci := 5) [.int b1] m_gc_found (by decide) ⟨by decide, by decide⟩ (List.mem_of_getElem? (i := 1316) (by decide +kernel)) rfl (Nat.le_of_ble_eq_true rfl) h1 (by decide +kernel) (Nat.le_of_ble_eq_true rfl) rfl) (ok_gc_found a0 b1 S v) rfl rfl (fun k0 b hb => by cases hb; rfl) (fun q2 => ?_)
  refine sim_oc2 (fun _ => sim_none) (fun r3 _ => ?_)
  refine sim_seg [(.astore_n 3, 0, 0, 0)] [] (q := 6) (L' := [some (.ref a0), some (.int b1), some (.int b2), some (.ref r3)]) (st' := []) (v1 := v) (by decide +kernel) rfl trivial ?_
  refine sim_seg [(.iload_n 2, 0, 0, 0), (.bipush (-99), 0, 0, (-99)), (.bipush 99, 0, 0, 99)] [] (q := 11) (L' := [some (.ref a0), some (.int b1), some (.int b2), some (.ref r3)]) (st' := [.int (J 99), .int (J (-99)), .int b2]) (v1 := v) (by decide +kernel) rfl trivial ?_
  refine sc_xv (pc3 := 14) (cf_S (idx := 170) [.int b2, .int (J (-99)), .int (J 99)] m_gc_requireWithin ⟨by decide, by decide⟩ (List.mem_of_getElem? (i := 1321) (by decide +kernel)) rfl (Nat.le_of_ble_eq_true rfl) (by decide +kernel) (Nat.le_of_ble_eq_true rfl) rfl) (ok_gc_requireWithin b2 (J (-99)) (J 99) S v) rfl rfl (fun k0 b hb => by cases hb; rfl) (fun _ => ?_)
  refine sim_grd fun h4 => ?_
  refine sim_seg [(.aload_n 3, 0, 0, 0), (.getfield 268, 1, 0, 0)] [] (q := 18) (L' := [some (.ref a0), some (.int b1), some (.int b2), some (.ref r3)]) (st' := [.int (gi v r3 0)]) (v1 := v) (by decide +kernel) rfl ⟨h4, trivial⟩ ?_
  refine sim_eq0 (o := 22) (tg := 40) (f := 21) (by decide +kernel) rfl rfl (fun _ => ?_) (fun _ => ?_)
  · refine sim_bind fun r5 h6 => ?_
    refine sim_seg [(.aload_n 0, 0, 0, 0), (.getfield 26, 5, 5, 0), (.aload_n 3, 0, 0, 0), (.getfield 274, 1, 3, 0), (.aload_n 3, 0, 0, 0), (.getfield 271, 1, 5, 0), (.iload_n 2, 0, 0, 0)] [r5] (q := 53) (L' := [some (.ref a0), some (.int b1), some (.int b2), some (.ref r3)]) (st' := [.int b2, .int (gi v r3 5), .int (gi v r3 3), .ref r5]) (v1 := v) (by decide +kernel) rfl ⟨⟨h1, h6⟩, h4, h4, trivial⟩ ?_
    refine sim_grd fun h7 => ?_
    refine sc_ri (pc3 := 56) (cf_V (idx := 258) (ci := 4) [.int (gi v r3 3), .int (gi v r3 5), .int b2] m_st_valueOf (by decide) ⟨by decide, by decide⟩ (List.mem_of_getElem? (i := 1451) (by decide +kernel)) rfl (Nat.le_of_ble_eq_true rfl) h7 (by decide +kernel) (Nat.le_of_ble_eq_true rfl) rfl) (ok_st_valueOf r5 (gi v r3 3) (gi v r3 5) b2 S v) rfl (fun x8 => ?_)
    exact sim_iret (by decide +kernel) rfl rfl rfl
  · refine sim_bind fun r9 h10 => ?_
    refine sim_seg [(.aload_n 0, 0, 0, 0), (.getfield 26, 5, 5, 0), (.aload_n 3, 0, 0, 0), (.getfield 271, 1, 5, 0), (.aload_n 3, 0, 0, 0), (.getfield 274, 1, 3, 0), (.iload_n 2, 0, 0, 0)] [r9] (q := 34) (L' := [some (.ref a0), some (.int b1), some (.int b2), some (.ref r3)]) (st' := [.int b2, .int (gi v r3 3), .int (gi v r3 5), .ref r9]) (v1 := v) (by decide +kernel) rfl ⟨⟨h1, h10⟩, h4, h4, trivial⟩ ?_
    refine sim_grd fun h11 => ?_
    refine sc_ri (pc3 := 37) (cf_V (idx := 258) (ci := 4) [.int (gi v r3 5), .int (gi v r3 3), .int b2] m_st_valueOf (by decide) ⟨by decide, by decide⟩ (List.mem_of_getElem? (i := 1451) (by decide +kernel)) rfl (Nat.le_of_ble_eq_true rfl) h11 (by decide +kernel) (Nat.le_of_ble_eq_true rfl) rfl) (ok_st_valueOf r9 (gi v r3 5) (gi v r3 3) b2 S v) rfl (fun x12 => ?_)
    refine sim_seg [(.goto 19, 0, 0, 0)] [] (q := 56) (L' := [some (.ref a0), some (.int b1), some (.int b2), some (.ref r3)]) (st' := [.int x12]) (v1 := v) (by decide +kernel) rfl trivial ?_
    exact sim_iret (by decide +kernel) rfl rfl rfl
def B_gc_run : bd := (⟨"GateCounter", "run", "(I)I"⟩, prog_1_method_46_code, 3, (some .int), [], 5, 8)
theorem m_gc_run : mV B_gc_run 5 1 := ⟨⟨⟨by decide +kernel, Or.inl rfl⟩, rfl, (List.mem_of_getElem? (i := 1473) (by decide +kernel)), by decide +kernel, (List.mem_of_getElem? (i := 95) (by decide +kernel)), ⟨by decide, by decide⟩, by decide⟩, rfl, (by unfold nar; decide +kernel), (List.mem_of_getElem? (i := 1471) (by decide +kernel)), rfl, (List.mem_of_getElem? (i := 1472) (by decide +kernel))⟩
noncomputable def F_gc_run (N : Nat) (a0 : Nat) (b1 : Int32) (S : shp) (v : vl) : Option (Nat ⊕ (Int32 × shp × vl)) :=
  bx (F_gc_requireWithin b1 (J 1) (J 100000) S v) (fun k0 => some (.inl k0)) fun _ => grd (kin S a0 = some (0, 5)) <| (gr S a0 5).bind fun r2 => grd (kin S r2 = some (0, 4)) <| (if (J 2000000) < ((gi v r2 0) + b1) then some (.inl 2) else (F_gc_keepForUndo N a0 S v).bind fun (S5, w6) => (gr S5 a0 5).bind fun r8 => grd (kin S5 r8 = some (0, 4)) <| (gr S5 r8 7).bind fun r11 => grd (kin S5 r11 = some (0, 3)) <| (F_st_passTo N r8 ((gi w6 r8 0) + b1) S5 w6).bind fun w14 => some (.inr (((gi w14 r11 2) - (gi w6 r11 2)), S5, w14)))
theorem ok_gc_run (N : Nat) (a0 : Nat) (b1 : Int32) (S : shp) (v : vl) : SimK B_gc_run 0 (entB (bN B_gc_run) [.ref a0, .int b1]) [] S v (F_gc_run N a0 b1 S v) (ρzi S v) := by
  show SimK B_gc_run 0 [some (.ref a0), some (.int b1), none] [] S v (F_gc_run N a0 b1 S v) _
  unfold F_gc_run
  refine sim_seg [(.iload_n 1, 0, 0, 0), (.iconst 1, 0, 0, 1), (.ldc 192, 0, 0, 100000)] [] (q := 4) (L' := [some (.ref a0), some (.int b1), none]) (st' := [.int (J 100000), .int (J 1), .int b1]) (v1 := v) (by decide +kernel) rfl trivial ?_
  refine sc_xv (pc3 := 7) (cf_S (idx := 170) [.int b1, .int (J 1), .int (J 100000)] m_gc_requireWithin ⟨by decide, by decide⟩ (List.mem_of_getElem? (i := 1321) (by decide +kernel)) rfl (Nat.le_of_ble_eq_true rfl) (by decide +kernel) (Nat.le_of_ble_eq_true rfl) rfl) (ok_gc_requireWithin b1 (J 1) (J 100000) S v) rfl rfl (fun k0 b hb => by cases hb; rfl) (fun _ => ?_)
  refine sim_grd fun h1 => ?_
  refine sim_bind fun r2 h3 => ?_
  refine sim_grd fun h4 => ?_
  refine sim_seg [(.aload_n 0, 0, 0, 0), (.getfield 26, 5, 5, 0), (.getfield 84, 4, 0, 0), (.iload_n 1, 0, 0, 0), (.iadd, 0, 0, 0), (.ldc 216, 0, 0, 2000000)] [r2] (q := 18) (L' := [some (.ref a0), some (.int b1), none]) (st' := [.int (J 2000000), .int ((gi v r2 0) + b1)]) (v1 := v) (by decide +kernel) rfl ⟨⟨h1, h3⟩, h4, trivial⟩ ?_
  refine sim_le (o := 11) (tg := 29) (f := 21) (by decide +kernel) rfl rfl (fun _ => ?_) (fun _ => ?_)
  · exact sim_throw thr2 rfl rfl (by decide) (by decide +kernel) (by decide +kernel) (by decide +kernel) (by decide +kernel) (Nat.le_of_ble_eq_true rfl) rfl
  · refine sim_seg [(.aload_n 0, 0, 0, 0)] [] (q := 30) (L' := [some (.ref a0), some (.int b1), none]) (st' := [.ref a0]) (v1 := v) (by decide +kernel) rfl trivial ?_
    refine sc_gv (pc3 := 33) (cf_V (idx := 289) (ci := 5) [] m_gc_keepForUndo (by decide) ⟨by decide, by decide⟩ (List.mem_of_getElem? (i := 865) (by decide +kernel)) rfl (Nat.le_of_ble_eq_true rfl) h1 (by decide +kernel) (Nat.le_of_ble_eq_true rfl) rfl) (ok_gc_keepForUndo N a0 S v) rfl (fun S5 w6 h7 => ?_)
    refine sim_bind fun r8 h9 => ?_
    refine sim_grd fun h10 => ?_
    refine sim_bind fun r11 h12 => ?_
    refine sim_grd fun h13 => ?_
    refine sim_seg [(.aload_n 0, 0, 0, 0), (.getfield 26, 5, 5, 0), (.getfield 69, 4, 7, 0), (.getfield 96, 3, 2, 0), (.istore_n 2, 0, 0, 0)] [r8, r11] (q := 44) (L' := [some (.ref a0), some (.int b1), some (.int (gi w6 r11 2))]) (st' := []) (v1 := w6) (by decide +kernel) rfl ⟨⟨(h7.2.2.2.2 _ _ h1), h9⟩, ⟨h10, h12⟩, h13, trivial⟩ ?_
    refine sim_seg [(.aload_n 0, 0, 0, 0), (.getfield 26, 5, 5, 0), (.aload_n 0, 0, 0, 0), (.getfield 26, 5, 5, 0), (.getfield 84, 4, 0, 0), (.iload_n 1, 0, 0, 0), (.iadd, 0, 0, 0)] [r8, r8] (q := 57) (L' := [some (.ref a0), some (.int b1), some (.int (gi w6 r11 2))]) (st' := [.int ((gi w6 r8 0) + b1), .ref r8]) (v1 := w6) (by decide +kernel) rfl ⟨⟨(h7.2.2.2.2 _ _ h1), h9⟩, ⟨(h7.2.2.2.2 _ _ h1), h9⟩, h10, trivial⟩ ?_
    refine sc_pv (pc3 := 60) (cf_V (idx := 292) (ci := 4) [.int ((gi w6 r8 0) + b1)] m_st_passTo (by decide) ⟨by decide, by decide⟩ (List.mem_of_getElem? (i := 870) (by decide +kernel)) rfl (Nat.le_of_ble_eq_true rfl) h10 (by decide +kernel) (Nat.le_of_ble_eq_true rfl) rfl) (ok_st_passTo N r8 ((gi w6 r8 0) + b1) S5 w6) rfl (fun w14 => ?_)
    refine sim_seg [(.aload_n 0, 0, 0, 0), (.getfield 26, 5, 5, 0), (.getfield 69, 4, 7, 0), (.getfield 96, 3, 2, 0), (.iload_n 2, 0, 0, 0), (.isub, 0, 0, 0)] [r8, r11] (q := 72) (L' := [some (.ref a0), some (.int b1), some (.int (gi w6 r11 2))]) (st' := [.int ((gi w14 r11 2) - (gi w6 r11 2))]) (v1 := w14) (by decide +kernel) rfl ⟨⟨(h7.2.2.2.2 _ _ h1), h9⟩, ⟨h10, h12⟩, h13, trivial⟩ ?_
    exact sim_iret (by decide +kernel) rfl rfl rfl
def B_gc_runTo : bd := (⟨"GateCounter", "runTo", "(I)I"⟩, prog_1_method_47_code, 3, (some .int), [], 5, 8)
theorem m_gc_runTo : mV B_gc_runTo 5 1 := ⟨⟨⟨by decide +kernel, Or.inl rfl⟩, rfl, (List.mem_of_getElem? (i := 1495) (by decide +kernel)), by decide +kernel, (List.mem_of_getElem? (i := 95) (by decide +kernel)), ⟨by decide, by decide⟩, by decide⟩, rfl, (by unfold nar; decide +kernel), (List.mem_of_getElem? (i := 1493) (by decide +kernel)), rfl, (List.mem_of_getElem? (i := 1494) (by decide +kernel))⟩
noncomputable def F_gc_runTo (N : Nat) (a0 : Nat) (b1 : Int32) (S : shp) (v : vl) : Option (Nat ⊕ (Int32 × shp × vl)) :=
  grd (kin S a0 = some (0, 5)) <| (gr S a0 5).bind fun r2 => grd (kin S r2 = some (0, 4)) <| bx (F_gc_requireWithin b1 (gi v r2 0) (J 2000000) S v) (fun k0 => some (.inl k0)) fun _ => (F_gc_keepForUndo N a0 S v).bind fun (S5, w6) => (gr S5 a0 5).bind fun r8 => grd (kin S5 r8 = some (0, 4)) <| (gr S5 r8 7).bind fun r11 => grd (kin S5 r11 = some (0, 3)) <| (F_st_passTo N r8 b1 S5 w6).bind fun w14 => some (.inr (((gi w14 r11 3) - (gi w6 r11 3)), S5, w14))
theorem ok_gc_runTo (N : Nat) (a0 : Nat) (b1 : Int32) (S : shp) (v : vl) : SimK B_gc_runTo 0 (entB (bN B_gc_runTo) [.ref a0, .int b1]) [] S v (F_gc_runTo N a0 b1 S v) (ρzi S v) := by
  show SimK B_gc_runTo 0 [some (.ref a0), some (.int b1), none] [] S v (F_gc_runTo N a0 b1 S v) _
  unfold F_gc_runTo
  refine sim_grd fun h1 => ?_
  refine sim_bind fun r2 h3 => ?_
  refine sim_grd fun h4 => ?_
  refine sim_seg [(.iload_n 1, 0, 0, 0), (.aload_n 0, 0, 0, 0), (.getfield 26, 5, 5, 0), (.getfield 84, 4, 0, 0), (.ldc 216, 0, 0, 2000000)] [r2] (q := 10) (L' := [some (.ref a0), some (.int b1), none]) (st' := [.int (J 2000000), .int (gi v r2 0), .int b1]) (v1 := v) (by decide +kernel) rfl ⟨⟨h1, h3⟩, h4, trivial⟩ ?_
  refine sc_xv (pc3 := 13) (cf_S (idx := 170) [.int b1, .int (gi v r2 0), .int (J 2000000)] m_gc_requireWithin ⟨by decide, by decide⟩ (List.mem_of_getElem? (i := 1321) (by decide +kernel)) rfl (Nat.le_of_ble_eq_true rfl) (by decide +kernel) (Nat.le_of_ble_eq_true rfl) rfl) (ok_gc_requireWithin b1 (gi v r2 0) (J 2000000) S v) rfl rfl (fun k0 b hb => by cases hb; rfl) (fun _ => ?_)
  refine sim_seg [(.aload_n 0, 0, 0, 0)] [] (q := 14) (L' := [some (.ref a0), some (.int b1), none]) (st' := [.ref a0]) (v1 := v) (by decide +kernel) rfl trivial ?_
  refine sc_gv (pc3 := 17) (cf_V (idx := 289) (ci := 5) [] m_gc_keepForUndo (by decide) ⟨by decide, by decide⟩ (List.mem_of_getElem? (i := 865) (by decide +kernel)) rfl (Nat.le_of_ble_eq_true rfl) h1 (by decide +kernel) (Nat.le_of_ble_eq_true rfl) rfl) (ok_gc_keepForUndo N a0 S v) rfl (fun S5 w6 h7 => ?_)
  refine sim_bind fun r8 h9 => ?_
  refine sim_grd fun h10 => ?_
  refine sim_bind fun r11 h12 => ?_
  refine sim_grd fun h13 => ?_
  refine sim_seg [(.aload_n 0, 0, 0, 0), (.getfield 26, 5, 5, 0), (.getfield 69, 4, 7, 0), (.getfield 97, 3, 3, 0), (.istore_n 2, 0, 0, 0)] [r8, r11] (q := 28) (L' := [some (.ref a0), some (.int b1), some (.int (gi w6 r11 3))]) (st' := []) (v1 := w6) (by decide +kernel) rfl ⟨⟨(h7.2.2.2.2 _ _ h1), h9⟩, ⟨h10, h12⟩, h13, trivial⟩ ?_
  refine sim_seg [(.aload_n 0, 0, 0, 0), (.getfield 26, 5, 5, 0), (.iload_n 1, 0, 0, 0)] [r8] (q := 33) (L' := [some (.ref a0), some (.int b1), some (.int (gi w6 r11 3))]) (st' := [.int b1, .ref r8]) (v1 := w6) (by decide +kernel) rfl ⟨⟨(h7.2.2.2.2 _ _ h1), h9⟩, trivial⟩ ?_
  refine sc_pv (pc3 := 36) (cf_V (idx := 292) (ci := 4) [.int b1] m_st_passTo (by decide) ⟨by decide, by decide⟩ (List.mem_of_getElem? (i := 870) (by decide +kernel)) rfl (Nat.le_of_ble_eq_true rfl) h10 (by decide +kernel) (Nat.le_of_ble_eq_true rfl) rfl) (ok_st_passTo N r8 b1 S5 w6) rfl (fun w14 => ?_)
  refine sim_seg [(.aload_n 0, 0, 0, 0), (.getfield 26, 5, 5, 0), (.getfield 69, 4, 7, 0), (.getfield 97, 3, 3, 0), (.iload_n 2, 0, 0, 0), (.isub, 0, 0, 0)] [r8, r11] (q := 48) (L' := [some (.ref a0), some (.int b1), some (.int (gi w6 r11 3))]) (st' := [.int ((gi w14 r11 3) - (gi w6 r11 3))]) (v1 := w14) (by decide +kernel) rfl ⟨⟨(h7.2.2.2.2 _ _ h1), h9⟩, ⟨h10, h12⟩, h13, trivial⟩ ?_
  exact sim_iret (by decide +kernel) rfl rfl rfl
def B_st_makeCalibration : bd := (⟨"GateCounter$State", "makeCalibration", "(I)I"⟩, prog_6_method_8_code, 4, (some .int), [], 4, 5)
theorem m_st_makeCalibration : mV B_st_makeCalibration 4 1 := ⟨⟨⟨by decide +kernel, Or.inl rfl⟩, rfl, (List.mem_of_getElem? (i := 1506) (by decide +kernel)), by decide +kernel, (List.mem_of_getElem? (i := 97) (by decide +kernel)), ⟨by decide, by decide⟩, by decide⟩, rfl, (by unfold nar; decide +kernel), (List.mem_of_getElem? (i := 1504) (by decide +kernel)), rfl, (List.mem_of_getElem? (i := 1505) (by decide +kernel))⟩
noncomputable def F_st_makeCalibration (N : Nat) (a0 : Nat) (b1 : Int32) (S : shp) (v : vl) : Option (Int32 × vl) :=
  grd (kin S a0 = some (0, 4)) <| (if (J 2000000) < ((gi v a0 0) + b1) then some (((J 1), v)) else (gr S a0 6).bind fun r2 => grd (kin S r2 = some (0, 0)) <| (F_st_passTo N a0 ((gi v a0 0) + b1) S v).bind fun w5 => lt (((gi w5 r2 5) - (gi v r2 5)) * (gi w5 r2 0)) fun x6 => (if (J 0) < x6 then grd (¬ x6 = 0) <| (F_gc_withinOff (((b1 * (J 1000)) / x6) - (J 1000)) S w5).bind fun x8 => lt (si w5 a0 3 x8) fun w9 => some (((J 0), w9)) else some (((J 4), w5))))
theorem ok_st_makeCalibration (N : Nat) (a0 : Nat) (b1 : Int32) (S : shp) (v : vl) : SimK B_st_makeCalibration 0 (entB (bN B_st_makeCalibration) [.ref a0, .int b1]) [] S v (F_st_makeCalibration N a0 b1 S v) (ρpi S) := by
  show SimK B_st_makeCalibration 0 [some (.ref a0), some (.int b1), none, none] [] S v (F_st_makeCalibration N a0 b1 S v) _
  unfold F_st_makeCalibration
  refine sim_grd fun h1 => ?_
  refine sim_seg [(.aload_n 0, 0, 0, 0), (.getfield 34, 4, 0, 0), (.iload_n 1, 0, 0, 0), (.iadd, 0, 0, 0), (.ldc 73, 0, 0, 2000000)] [] (q := 8) (L' := [some (.ref a0), some (.int b1), none, none]) (st' := [.int (J 2000000), .int ((gi v a0 0) + b1)]) (v1 := v) (by decide +kernel) rfl ⟨h1, trivial⟩ ?_
  refine sim_le (o := 5) (tg := 13) (f := 11) (by decide +kernel) rfl rfl (fun _ => ?_) (fun _ => ?_)
  · refine sim_seg [(.iconst 1, 0, 0, 1)] [] (q := 12) (L' := [some (.ref a0), some (.int b1), none, none]) (st' := [.int (J 1)]) (v1 := v) (by decide +kernel) rfl trivial ?_
    exact sim_iret (by decide +kernel) rfl rfl rfl
  · refine sim_bind fun r2 h3 => ?_
    refine sim_grd fun h4 => ?_
    refine sim_seg [(.aload_n 0, 0, 0, 0), (.getfield 12, 4, 6, 0), (.getfield 112, 0, 5, 0), (.istore_n 2, 0, 0, 0)] [r2] (q := 21) (L' := [some (.ref a0), some (.int b1), some (.int (gi v r2 5)), none]) (st' := []) (v1 := v) (by decide +kernel) rfl ⟨⟨h1, h3⟩, h4, trivial⟩ ?_
    refine sim_seg [(.aload_n 0, 0, 0, 0), (.aload_n 0, 0, 0, 0), (.getfield 34, 4, 0, 0), (.iload_n 1, 0, 0, 0), (.iadd, 0, 0, 0)] [] (q := 28) (L' := [some (.ref a0), some (.int b1), some (.int (gi v r2 5)), none]) (st' := [.int ((gi v a0 0) + b1), .ref a0]) (v1 := v) (by decide +kernel) rfl ⟨h1, trivial⟩ ?_
    refine sc_pv (pc3 := 31) (cf_V (idx := 115) (ci := 4) [.int ((gi v a0 0) + b1)] m_st_passTo (by decide) ⟨by decide, by decide⟩ (List.mem_of_getElem? (i := 698) (by decide +kernel)) rfl (Nat.le_of_ble_eq_true rfl) h1 (by decide +kernel) (Nat.le_of_ble_eq_true rfl) rfl) (ok_st_passTo N a0 ((gi v a0 0) + b1) S v) rfl (fun w5 => ?_)
    refine sim_seg [(.aload_n 0, 0, 0, 0), (.getfield 12, 4, 6, 0), (.getfield 112, 0, 5, 0), (.iload_n 2, 0, 0, 0), (.isub, 0, 0, 0), (.aload_n 0, 0, 0, 0), (.getfield 12, 4, 6, 0), (.getfield 116, 0, 0, 0), (.imul, 0, 0, 0), (.istore_n 3, 0, 0, 0)] [r2, r2] (q := 49) (L' := [some (.ref a0), some (.int b1), some (.int (gi v r2 5)), some (.int (((gi w5 r2 5) - (gi v r2 5)) * (gi w5 r2 0)))]) (st' := []) (v1 := w5) (by decide +kernel) rfl ⟨⟨h1, h3⟩, h4, ⟨h1, h3⟩, h4, trivial⟩ ?_
    refine sim_nm (((gi w5 r2 5) - (gi v r2 5)) * (gi w5 r2 0)) (fun x6 => [some (.ref a0), some (.int b1), some (.int (gi v r2 5)), some (.int x6)]) (fun x6 => []) (fun x6 => ?_) rfl rfl
    refine sim_seg [(.iload_n 3, 0, 0, 0)] [] (q := 50) (L' := [some (.ref a0), some (.int b1), some (.int (gi v r2 5)), some (.int x6)]) (st' := [.int x6]) (v1 := w5) (by decide +kernel) rfl trivial ?_
    refine sim_gt0 (o := 5) (tg := 55) (f := 53) (by decide +kernel) rfl rfl (fun _ => ?_) (fun _ => ?_)
    · refine sim_grd fun h7 => ?_
      refine sim_seg [(.aload_n 0, 0, 0, 0), (.iload_n 1, 0, 0, 0), (.sipush 1000, 0, 0, 1000), (.imul, 0, 0, 0), (.iload_n 3, 0, 0, 0), (.idiv, 0, 0, 0), (.sipush 1000, 0, 0, 1000), (.isub, 0, 0, 0)] [] (q := 67) (L' := [some (.ref a0), some (.int b1), some (.int (gi v r2 5)), some (.int x6)]) (st' := [.int (((b1 * (J 1000)) / x6) - (J 1000)), .ref a0]) (v1 := w5) (by decide +kernel) rfl ⟨h7, trivial⟩ ?_
      refine sc_ri (pc3 := 70) (cf_SN (idx := 119) (host := "GateCounter") [.int (((b1 * (J 1000)) / x6) - (J 1000))] m_gc_withinOff ⟨by decide, by decide⟩ (by decide +kernel) rfl (Nat.le_of_ble_eq_true rfl) (by decide +kernel) (Nat.le_of_ble_eq_true rfl) rfl) (ok_gc_withinOff (((b1 * (J 1000)) / x6) - (J 1000)) S w5) rfl (fun x8 => ?_)
      refine sim_seg [(.putfield 44, 4, 3, 0), (.iconst 0, 0, 0, 0)] [] (q := 74) (L' := [some (.ref a0), some (.int b1), some (.int (gi v r2 5)), some (.int x6)]) (st' := [.int (J 0)]) (v1 := (si w5 a0 3 x8)) (by decide +kernel) rfl ⟨h1, trivial⟩ ?_
      refine sim_lt (x := (si w5 a0 3 x8)) ?_
      generalize (si w5 a0 3 x8) = w9
      exact sim_iret (by decide +kernel) rfl rfl rfl
    · refine sim_seg [(.iconst 4, 0, 0, 4)] [] (q := 54) (L' := [some (.ref a0), some (.int b1), some (.int (gi v r2 5)), some (.int x6)]) (st' := [.int (J 4)]) (v1 := w5) (by decide +kernel) rfl trivial ?_
      exact sim_iret (by decide +kernel) rfl rfl rfl
def B_gc_calibrate : bd := (⟨"GateCounter", "calibrate", "(I)I"⟩, prog_1_method_53_code, 3, (some .int), [], 5, 8)
theorem m_gc_calibrate : mV B_gc_calibrate 5 1 := ⟨⟨⟨by decide +kernel, Or.inl rfl⟩, rfl, (List.mem_of_getElem? (i := 1502) (by decide +kernel)), by decide +kernel, (List.mem_of_getElem? (i := 95) (by decide +kernel)), ⟨by decide, by decide⟩, by decide⟩, rfl, (by unfold nar; decide +kernel), (List.mem_of_getElem? (i := 1500) (by decide +kernel)), rfl, (List.mem_of_getElem? (i := 1501) (by decide +kernel))⟩
noncomputable def F_gc_calibrate (N : Nat) (a0 : Nat) (b1 : Int32) (S : shp) (v : vl) : Option (Nat ⊕ (Int32 × shp × vl)) :=
  bx (F_gc_requireWithin b1 (J 1) (J 100000) S v) (fun k0 => some (.inl k0)) fun _ => grd (kin S a0 = some (0, 5)) <| (gr S a0 6).bind fun r2 => (F_gc_fresh N a0 r2 S v).bind fun (q4, S5, w6) => oc2 q4 none fun r8 => grd (kin S5 r8 = some (0, 4)) <| (F_st_makeCalibration N r8 b1 S5 w6).bind fun (x10, w11) => (if x10 = (J 0) then (F_gc_acceptChange N a0 S5 w11).bind fun (S12, w13) => (gr S12 a0 5).bind fun r15 => (gr S12 a0 6).bind fun r17 => grd (kin S12 r15 = some (0, 4)) <| (F_st_copyFrom N r15 r17 S12 w13).bind fun (S20, w21) => (gr S20 a0 5).bind fun r23 => grd (kin S20 r23 = some (0, 4)) <| some (.inr (((gi w21 r23 3) + (J 99)), S20, w21)) else (F_gc_refuse a0 x10 (J 0) S5 w11).bind fun (x26, w27) => some (.inr (x26, S5, w27)))
theorem ok_gc_calibrate (N : Nat) (a0 : Nat) (b1 : Int32) (S : shp) (v : vl) : SimK B_gc_calibrate 0 (entB (bN B_gc_calibrate) [.ref a0, .int b1]) [] S v (F_gc_calibrate N a0 b1 S v) (ρzi S v) := by
  show SimK B_gc_calibrate 0 [some (.ref a0), some (.int b1), none] [] S v (F_gc_calibrate N a0 b1 S v) _
  unfold F_gc_calibrate
  refine sim_seg [(.iload_n 1, 0, 0, 0), (.iconst 1, 0, 0, 1), (.ldc 192, 0, 0, 100000)] [] (q := 4) (L' := [some (.ref a0), some (.int b1), none]) (st' := [.int (J 100000), .int (J 1), .int b1]) (v1 := v) (by decide +kernel) rfl trivial ?_
  refine sc_xv (pc3 := 7) (cf_S (idx := 170) [.int b1, .int (J 1), .int (J 100000)] m_gc_requireWithin ⟨by decide, by decide⟩ (List.mem_of_getElem? (i := 1321) (by decide +kernel)) rfl (Nat.le_of_ble_eq_true rfl) (by decide +kernel) (Nat.le_of_ble_eq_true rfl) rfl) (ok_gc_requireWithin b1 (J 1) (J 100000) S v) rfl rfl (fun k0 b hb => by cases hb; rfl) (fun _ => ?_)
  refine sim_grd fun h1 => ?_
  refine sim_bind fun r2 h3 => ?_
  refine sim_seg [(.aload_n 0, 0, 0, 0), (.aload_n 0, 0, 0, 0), (.getfield 30, 5, 6, 0)] [r2] (q := 12) (L' := [some (.ref a0), some (.int b1), none]) (st' := [.ref r2, .ref a0]) (v1 := v) (by decide +kernel) rfl ⟨⟨h1, h3⟩, trivial⟩ ?_
  refine sc_gq (pc3 := 15) (cf_V (idx := 196) (ci := 5) [.ref r2] m_gc_fresh (by decide) ⟨by decide, by decide⟩ (List.mem_of_getElem? (i := 645) (by decide +kernel)) rfl (Nat.le_of_ble_eq_true rfl) h1 (by decide +kernel) (Nat.le_of_ble_eq_true rfl) rfl) (ok_gc_fresh N a0 r2 S v) rfl (fun q4 S5 w6 h7 => ?_)
  refine sim_oc2 (fun _ => sim_none) (fun r8 _ => ?_)
  refine sim_seg [(.iload_n 1, 0, 0, 0)] [] (q := 16) (L' := [some (.ref a0), some (.int b1), none]) (st' := [.int b1, .ref r8]) (v1 := w6) (by decide +kernel) rfl trivial ?_
  refine sim_grd fun h9 => ?_
  refine sc_pi (pc3 := 19) (cf_V (idx := 309) (ci := 4) [.int b1] m_st_makeCalibration (by decide) ⟨by decide, by decide⟩ (List.mem_of_getElem? (i := 1503) (by decide +kernel)) rfl (Nat.le_of_ble_eq_true rfl) h9 (by decide +kernel) (Nat.le_of_ble_eq_true rfl) rfl) (ok_st_makeCalibration N r8 b1 S5 w6) rfl (fun x10 w11 => ?_)
  refine sim_seg [(.istore_n 2, 0, 0, 0)] [] (q := 20) (L' := [some (.ref a0), some (.int b1), some (.int x10)]) (st' := []) (v1 := w11) (by decide +kernel) rfl trivial ?_
  refine sim_seg [(.iload_n 2, 0, 0, 0)] [] (q := 21) (L' := [some (.ref a0), some (.int b1), some (.int x10)]) (st' := [.int x10]) (v1 := w11) (by decide +kernel) rfl trivial ?_
  refine sim_eq0 (o := 10) (tg := 31) (f := 24) (by decide +kernel) rfl rfl (fun _ => ?_) (fun _ => ?_)
  · refine sim_seg [(.aload_n 0, 0, 0, 0)] [] (q := 32) (L' := [some (.ref a0), some (.int b1), some (.int x10)]) (st' := [.ref a0]) (v1 := w11) (by decide +kernel) rfl trivial ?_
    refine sc_gv (pc3 := 35) (cf_V (idx := 299) (ci := 5) [] m_gc_acceptChange (by decide) ⟨by decide, by decide⟩ (List.mem_of_getElem? (i := 861) (by decide +kernel)) rfl (Nat.le_of_ble_eq_true rfl) (h7.2.2.2.2 _ _ h1) (by decide +kernel) (Nat.le_of_ble_eq_true rfl) rfl) (ok_gc_acceptChange N a0 S5 w11) rfl (fun S12 w13 h14 => ?_)
    refine sim_bind fun r15 h16 => ?_
    refine sim_bind fun r17 h18 => ?_
    refine sim_seg [(.aload_n 0, 0, 0, 0), (.getfield 26, 5, 5, 0), (.aload_n 0, 0, 0, 0), (.getfield 30, 5, 6, 0)] [r15, r17] (q := 43) (L' := [some (.ref a0), some (.int b1), some (.int x10)]) (st' := [.ref r17, .ref r15]) (v1 := w13) (by decide +kernel) rfl ⟨⟨(h14.2.2.2.2 _ _ (h7.2.2.2.2 _ _ h1)), h16⟩, ⟨(h14.2.2.2.2 _ _ (h7.2.2.2.2 _ _ h1)), h18⟩, trivial⟩ ?_
    refine sim_grd fun h19 => ?_
    refine sc_gv (pc3 := 46) (cf_V (idx := 58) (ci := 4) [.ref r17] m_st_copyFrom (by decide) ⟨by decide, by decide⟩ (List.mem_of_getElem? (i := 570) (by decide +kernel)) rfl (Nat.le_of_ble_eq_true rfl) h19 (by decide +kernel) (Nat.le_of_ble_eq_true rfl) rfl) (ok_st_copyFrom N r15 r17 S12 w13) rfl (fun S20 w21 h22 => ?_)
    refine sim_bind fun r23 h24 => ?_
    refine sim_grd fun h25 => ?_
    refine sim_seg [(.aload_n 0, 0, 0, 0), (.getfield 26, 5, 5, 0), (.getfield 130, 4, 3, 0), (.bipush 99, 0, 0, 99), (.iadd, 0, 0, 0)] [r23] (q := 56) (L' := [some (.ref a0), some (.int b1), some (.int x10)]) (st' := [.int ((gi w21 r23 3) + (J 99))]) (v1 := w21) (by decide +kernel) rfl ⟨⟨(h22.2.2.2.2 _ _ (h14.2.2.2.2 _ _ (h7.2.2.2.2 _ _ h1))), h24⟩, h25, trivial⟩ ?_
    exact sim_iret (by decide +kernel) rfl rfl rfl
  · refine sim_seg [(.aload_n 0, 0, 0, 0), (.iload_n 2, 0, 0, 0), (.iconst 0, 0, 0, 0)] [] (q := 27) (L' := [some (.ref a0), some (.int b1), some (.int x10)]) (st' := [.int (J 0), .int x10, .ref a0]) (v1 := w11) (by decide +kernel) rfl trivial ?_
    refine sc_pi (pc3 := 30) (cf_V (idx := 296) (ci := 5) [.int x10, .int (J 0)] m_gc_refuse (by decide) ⟨by decide, by decide⟩ (List.mem_of_getElem? (i := 857) (by decide +kernel)) rfl (Nat.le_of_ble_eq_true rfl) (h7.2.2.2.2 _ _ h1) (by decide +kernel) (Nat.le_of_ble_eq_true rfl) rfl) (ok_gc_refuse a0 x10 (J 0) S5 w11) rfl (fun x26 w27 => ?_)
    exact sim_iret (by decide +kernel) rfl rfl rfl
def B_gc_setPrescale : bd := (⟨"GateCounter", "setPrescale", "(I)I"⟩, prog_1_method_54_code, 3, (some .int), [], 5, 7)
theorem m_gc_setPrescale : mV B_gc_setPrescale 5 1 := ⟨⟨⟨by decide +kernel, Or.inl rfl⟩, rfl, (List.mem_of_getElem? (i := 1514) (by decide +kernel)), by decide +kernel, (List.mem_of_getElem? (i := 95) (by decide +kernel)), ⟨by decide, by decide⟩, by decide⟩, rfl, (by unfold nar; decide +kernel), (List.mem_of_getElem? (i := 1512) (by decide +kernel)), rfl, (List.mem_of_getElem? (i := 1513) (by decide +kernel))⟩
noncomputable def F_gc_setPrescale (N : Nat) (a0 : Nat) (b1 : Int32) (S : shp) (v : vl) : Option (Nat ⊕ (Int32 × shp × vl)) :=
  (F_gc_isPrescale N b1 S v).bind fun x1 => bx (F_gc_require x1 S v) (fun k0 => some (.inl k0)) fun _ => grd (kin S a0 = some (0, 5)) <| (F_gc_keepForUndo N a0 S v).bind fun (S3, w4) => (gr S3 a0 5).bind fun r6 => grd (kin S3 r6 = some (0, 4)) <| (gr S3 r6 7).bind fun r9 => grd (kin S3 r9 = some (0, 3)) <| (F_sg_setUpPrescaler r9 b1 S3 w4).bind fun w12 => some (.inr ((gi w4 r9 4), S3, w12))
theorem ok_gc_setPrescale (N : Nat) (a0 : Nat) (b1 : Int32) (S : shp) (v : vl) : SimK B_gc_setPrescale 0 (entB (bN B_gc_setPrescale) [.ref a0, .int b1]) [] S v (F_gc_setPrescale N a0 b1 S v) (ρzi S v) := by
  show SimK B_gc_setPrescale 0 [some (.ref a0), some (.int b1), none] [] S v (F_gc_setPrescale N a0 b1 S v) _
  unfold F_gc_setPrescale
  refine sim_seg [(.iload_n 1, 0, 0, 0)] [] (q := 1) (L' := [some (.ref a0), some (.int b1), none]) (st' := [.int b1]) (v1 := v) (by decide +kernel) rfl trivial ?_
  refine sc_ri (pc3 := 4) (cf_S (idx := 312) [.int b1] m_gc_isPrescale ⟨by decide, by decide⟩ (List.mem_of_getElem? (i := 1515) (by decide +kernel)) rfl (Nat.le_of_ble_eq_true rfl) (by decide +kernel) (Nat.le_of_ble_eq_true rfl) rfl) (ok_gc_isPrescale N b1 S v) rfl (fun x1 => ?_)
  refine sc_xv (pc3 := 7) (cf_S (idx := 155) [.int x1] m_gc_require ⟨by decide, by decide⟩ (List.mem_of_getElem? (i := 1306) (by decide +kernel)) rfl (Nat.le_of_ble_eq_true rfl) (by decide +kernel) (Nat.le_of_ble_eq_true rfl) rfl) (ok_gc_require x1 S v) rfl rfl (fun k0 b hb => by cases hb; rfl) (fun _ => ?_)
  refine sim_seg [(.aload_n 0, 0, 0, 0)] [] (q := 8) (L' := [some (.ref a0), some (.int b1), none]) (st' := [.ref a0]) (v1 := v) (by decide +kernel) rfl trivial ?_
  refine sim_grd fun h2 => ?_
  refine sc_gv (pc3 := 11) (cf_V (idx := 289) (ci := 5) [] m_gc_keepForUndo (by decide) ⟨by decide, by decide⟩ (List.mem_of_getElem? (i := 865) (by decide +kernel)) rfl (Nat.le_of_ble_eq_true rfl) h2 (by decide +kernel) (Nat.le_of_ble_eq_true rfl) rfl) (ok_gc_keepForUndo N a0 S v) rfl (fun S3 w4 h5 => ?_)
  refine sim_bind fun r6 h7 => ?_
  refine sim_grd fun h8 => ?_
  refine sim_bind fun r9 h10 => ?_
  refine sim_grd fun h11 => ?_
  refine sim_seg [(.aload_n 0, 0, 0, 0), (.getfield 26, 5, 5, 0), (.getfield 69, 4, 7, 0), (.getfield 121, 3, 4, 0), (.istore_n 2, 0, 0, 0)] [r6, r9] (q := 22) (L' := [some (.ref a0), some (.int b1), some (.int (gi w4 r9 4))]) (st' := []) (v1 := w4) (by decide +kernel) rfl ⟨⟨(h5.2.2.2.2 _ _ h2), h7⟩, ⟨h8, h10⟩, h11, trivial⟩ ?_
  refine sim_seg [(.aload_n 0, 0, 0, 0), (.getfield 26, 5, 5, 0), (.getfield 69, 4, 7, 0), (.iload_n 1, 0, 0, 0)] [r6, r9] (q := 30) (L' := [some (.ref a0), some (.int b1), some (.int (gi w4 r9 4))]) (st' := [.int b1, .ref r9]) (v1 := w4) (by decide +kernel) rfl ⟨⟨(h5.2.2.2.2 _ _ h2), h7⟩, ⟨h8, h10⟩, trivial⟩ ?_
  refine sc_pv (pc3 := 33) (cf_V (idx := 265) (ci := 3) [.int b1] m_sg_setUpPrescaler (by decide) ⟨by decide, by decide⟩ (List.mem_of_getElem? (i := 817) (by decide +kernel)) rfl (Nat.le_of_ble_eq_true rfl) h11 (by decide +kernel) (Nat.le_of_ble_eq_true rfl) rfl) (ok_sg_setUpPrescaler r9 b1 S3 w4) rfl (fun w12 => ?_)
  refine sim_seg [(.iload_n 2, 0, 0, 0)] [] (q := 34) (L' := [some (.ref a0), some (.int b1), some (.int (gi w4 r9 4))]) (st' := [.int (gi w4 r9 4)]) (v1 := w12) (by decide +kernel) rfl trivial ?_
  exact sim_iret (by decide +kernel) rfl rfl rfl
def B_gc_maySet : bd := (⟨"GateCounter", "maySet", "(II)Z"⟩, prog_1_method_56_code, 2, (some .boolean), [], 5, 0)
theorem m_gc_maySet : mS B_gc_maySet 2 := ⟨⟨⟨by decide +kernel, Or.inl rfl⟩, rfl, (List.mem_of_getElem? (i := 1525) (by decide +kernel)), by decide +kernel, (List.mem_of_getElem? (i := 95) (by decide +kernel)), ⟨by decide, by decide⟩, by decide⟩, rfl, (by unfold nar; decide +kernel), (List.mem_of_getElem? (i := 1524) (by decide +kernel))⟩
noncomputable def F_gc_maySet (b0 : Int32) (b1 : Int32) (S : shp) (v : vl) : Option Int32 :=
  (if b0 = J 1 then (if b1 < (J (-99)) then some ((J 0)) else (if (J 99) < b1 then some ((J 0)) else some ((J 1)))) else if b0 = J 2 then (if b1 < (J (-1)) then some ((J 0)) else (if (J 1) < b1 then some ((J 0)) else some ((J 1)))) else if b0 = J 3 then some ((J 0)) else if b0 = J 4 then (if b1 < (J 1) then some ((J 0)) else (if (J 9999) < b1 then some ((J 0)) else some ((J 1)))) else if b0 = J 5 then (if b1 < (J 1) then some ((J 0)) else (if (J 999) < b1 then some ((J 0)) else some ((J 1)))) else if b0 = J 6 then (if b1 < (J (-99)) then some ((J 0)) else (if (J 99) < b1 then some ((J 0)) else some ((J 1)))) else some ((J 0)))
theorem ok_gc_maySet (b0 : Int32) (b1 : Int32) (S : shp) (v : vl) : SimK B_gc_maySet 0 (entB (bN B_gc_maySet) [.int b0, .int b1]) [] S v (F_gc_maySet b0 b1 S v) (ρri S v) := by
  show SimK B_gc_maySet 0 [some (.int b0), some (.int b1)] [] S v (F_gc_maySet b0 b1 S v) _
  unfold F_gc_maySet
  refine sim_seg [(.iload_n 0, 0, 0, 0)] [] (q := 1) (L' := [some (.int b0), some (.int b1)]) (st' := [.int b0]) (v1 := v) (by decide +kernel) rfl trivial ?_
  refine sim_case (df := 109) (lw := 1) (hg := 6) (offs := #[39, 57, 109, 73, 91, 39]) (len := 39) (z := 1) (o := 39) (tg := 40) (by decide +kernel) rfl rfl (by decide) (fun _ => ?_) (fun h1 => ?_)
  · refine sim_seg [(.iload_n 1, 0, 0, 0), (.bipush (-99), 0, 0, (-99))] [] (q := 43) (L' := [some (.int b0), some (.int b1)]) (st' := [.int (J (-99)), .int b1]) (v1 := v) (by decide +kernel) rfl trivial ?_
    refine sim_lt' (o := 13) (tg := 56) (f := 46) (by decide +kernel) rfl rfl (fun _ => ?_) (fun _ => ?_)
    · refine sim_seg [(.iconst 0, 0, 0, 0)] [] (q := 57) (L' := [some (.int b0), some (.int b1)]) (st' := [.int (J 0)]) (v1 := v) (by decide +kernel) rfl trivial ?_
      exact sim_iret (by decide +kernel) rfl (by decide) rfl
    · refine sim_seg [(.iload_n 1, 0, 0, 0), (.bipush 99, 0, 0, 99)] [] (q := 49) (L' := [some (.int b0), some (.int b1)]) (st' := [.int (J 99), .int b1]) (v1 := v) (by decide +kernel) rfl trivial ?_
      refine sim_gt (o := 7) (tg := 56) (f := 52) (by decide +kernel) rfl rfl (fun _ => ?_) (fun _ => ?_)
      · refine sim_seg [(.iconst 0, 0, 0, 0)] [] (q := 57) (L' := [some (.int b0), some (.int b1)]) (st' := [.int (J 0)]) (v1 := v) (by decide +kernel) rfl trivial ?_
        exact sim_iret (by decide +kernel) rfl (by decide) rfl
      · refine sim_seg [(.iconst 1, 0, 0, 1), (.goto 4, 0, 0, 0)] [] (q := 57) (L' := [some (.int b0), some (.int b1)]) (st' := [.int (J 1)]) (v1 := v) (by decide +kernel) rfl trivial ?_
        exact sim_iret (by decide +kernel) rfl (by decide) rfl
  refine sim_case (df := 109) (lw := 1) (hg := 6) (offs := #[39, 57, 109, 73, 91, 39]) (len := 39) (z := 2) (o := 57) (tg := 58) (by decide +kernel) rfl rfl (by decide) (fun _ => ?_) (fun h2 => ?_)
  · refine sim_seg [(.iload_n 1, 0, 0, 0), (.iconst (-1), 0, 0, (-1))] [] (q := 60) (L' := [some (.int b0), some (.int b1)]) (st' := [.int (J (-1)), .int b1]) (v1 := v) (by decide +kernel) rfl trivial ?_
    refine sim_lt' (o := 12) (tg := 72) (f := 63) (by decide +kernel) rfl rfl (fun _ => ?_) (fun _ => ?_)
    · refine sim_seg [(.iconst 0, 0, 0, 0)] [] (q := 73) (L' := [some (.int b0), some (.int b1)]) (st' := [.int (J 0)]) (v1 := v) (by decide +kernel) rfl trivial ?_
      exact sim_iret (by decide +kernel) rfl (by decide) rfl
    · refine sim_seg [(.iload_n 1, 0, 0, 0), (.iconst 1, 0, 0, 1)] [] (q := 65) (L' := [some (.int b0), some (.int b1)]) (st' := [.int (J 1), .int b1]) (v1 := v) (by decide +kernel) rfl trivial ?_
      refine sim_gt (o := 7) (tg := 72) (f := 68) (by decide +kernel) rfl rfl (fun _ => ?_) (fun _ => ?_)
      · refine sim_seg [(.iconst 0, 0, 0, 0)] [] (q := 73) (L' := [some (.int b0), some (.int b1)]) (st' := [.int (J 0)]) (v1 := v) (by decide +kernel) rfl trivial ?_
        exact sim_iret (by decide +kernel) rfl (by decide) rfl
      · refine sim_seg [(.iconst 1, 0, 0, 1), (.goto 4, 0, 0, 0)] [] (q := 73) (L' := [some (.int b0), some (.int b1)]) (st' := [.int (J 1)]) (v1 := v) (by decide +kernel) rfl trivial ?_
        exact sim_iret (by decide +kernel) rfl (by decide) rfl
  refine sim_case (df := 109) (lw := 1) (hg := 6) (offs := #[39, 57, 109, 73, 91, 39]) (len := 39) (z := 3) (o := 109) (tg := 110) (by decide +kernel) rfl rfl (by decide) (fun _ => ?_) (fun h3 => ?_)
  · refine sim_seg [(.iconst 0, 0, 0, 0)] [] (q := 111) (L' := [some (.int b0), some (.int b1)]) (st' := [.int (J 0)]) (v1 := v) (by decide +kernel) rfl trivial ?_
    exact sim_iret (by decide +kernel) rfl (by decide) rfl
  refine sim_case (df := 109) (lw := 1) (hg := 6) (offs := #[39, 57, 109, 73, 91, 39]) (len := 39) (z := 4) (o := 73) (tg := 74) (by decide +kernel) rfl rfl (by decide) (fun _ => ?_) (fun h4 => ?_)
  · refine sim_seg [(.iload_n 1, 0, 0, 0), (.iconst 1, 0, 0, 1)] [] (q := 76) (L' := [some (.int b0), some (.int b1)]) (st' := [.int (J 1), .int b1]) (v1 := v) (by decide +kernel) rfl trivial ?_
    refine sim_lt' (o := 14) (tg := 90) (f := 79) (by decide +kernel) rfl rfl (fun _ => ?_) (fun _ => ?_)
    · refine sim_seg [(.iconst 0, 0, 0, 0)] [] (q := 91) (L' := [some (.int b0), some (.int b1)]) (st' := [.int (J 0)]) (v1 := v) (by decide +kernel) rfl trivial ?_
      exact sim_iret (by decide +kernel) rfl (by decide) rfl
    · refine sim_seg [(.iload_n 1, 0, 0, 0), (.sipush 9999, 0, 0, 9999)] [] (q := 83) (L' := [some (.int b0), some (.int b1)]) (st' := [.int (J 9999), .int b1]) (v1 := v) (by decide +kernel) rfl trivial ?_
      refine sim_gt (o := 7) (tg := 90) (f := 86) (by decide +kernel) rfl rfl (fun _ => ?_) (fun _ => ?_)
      · refine sim_seg [(.iconst 0, 0, 0, 0)] [] (q := 91) (L' := [some (.int b0), some (.int b1)]) (st' := [.int (J 0)]) (v1 := v) (by decide +kernel) rfl trivial ?_
        exact sim_iret (by decide +kernel) rfl (by decide) rfl
      · refine sim_seg [(.iconst 1, 0, 0, 1), (.goto 4, 0, 0, 0)] [] (q := 91) (L' := [some (.int b0), some (.int b1)]) (st' := [.int (J 1)]) (v1 := v) (by decide +kernel) rfl trivial ?_
        exact sim_iret (by decide +kernel) rfl (by decide) rfl
  refine sim_case (df := 109) (lw := 1) (hg := 6) (offs := #[39, 57, 109, 73, 91, 39]) (len := 39) (z := 5) (o := 91) (tg := 92) (by decide +kernel) rfl rfl (by decide) (fun _ => ?_) (fun h5 => ?_)
  · refine sim_seg [(.iload_n 1, 0, 0, 0), (.iconst 1, 0, 0, 1)] [] (q := 94) (L' := [some (.int b0), some (.int b1)]) (st' := [.int (J 1), .int b1]) (v1 := v) (by decide +kernel) rfl trivial ?_
    refine sim_lt' (o := 14) (tg := 108) (f := 97) (by decide +kernel) rfl rfl (fun _ => ?_) (fun _ => ?_)
    · refine sim_seg [(.iconst 0, 0, 0, 0)] [] (q := 109) (L' := [some (.int b0), some (.int b1)]) (st' := [.int (J 0)]) (v1 := v) (by decide +kernel) rfl trivial ?_
      exact sim_iret (by decide +kernel) rfl (by decide) rfl
    · refine sim_seg [(.iload_n 1, 0, 0, 0), (.sipush 999, 0, 0, 999)] [] (q := 101) (L' := [some (.int b0), some (.int b1)]) (st' := [.int (J 999), .int b1]) (v1 := v) (by decide +kernel) rfl trivial ?_
      refine sim_gt (o := 7) (tg := 108) (f := 104) (by decide +kernel) rfl rfl (fun _ => ?_) (fun _ => ?_)
      · refine sim_seg [(.iconst 0, 0, 0, 0)] [] (q := 109) (L' := [some (.int b0), some (.int b1)]) (st' := [.int (J 0)]) (v1 := v) (by decide +kernel) rfl trivial ?_
        exact sim_iret (by decide +kernel) rfl (by decide) rfl
      · refine sim_seg [(.iconst 1, 0, 0, 1), (.goto 4, 0, 0, 0)] [] (q := 109) (L' := [some (.int b0), some (.int b1)]) (st' := [.int (J 1)]) (v1 := v) (by decide +kernel) rfl trivial ?_
        exact sim_iret (by decide +kernel) rfl (by decide) rfl
  refine sim_case (df := 109) (lw := 1) (hg := 6) (offs := #[39, 57, 109, 73, 91, 39]) (len := 39) (z := 6) (o := 39) (tg := 40) (by decide +kernel) rfl rfl (by decide) (fun _ => ?_) (fun h6 => ?_)
  · refine sim_seg [(.iload_n 1, 0, 0, 0), (.bipush (-99), 0, 0, (-99))] [] (q := 43) (L' := [some (.int b0), some (.int b1)]) (st' := [.int (J (-99)), .int b1]) (v1 := v) (by decide +kernel) rfl trivial ?_
    refine sim_lt' (o := 13) (tg := 56) (f := 46) (by decide +kernel) rfl rfl (fun _ => ?_) (fun _ => ?_)
    · refine sim_seg [(.iconst 0, 0, 0, 0)] [] (q := 57) (L' := [some (.int b0), some (.int b1)]) (st' := [.int (J 0)]) (v1 := v) (by decide +kernel) rfl trivial ?_
      exact sim_iret (by decide +kernel) rfl (by decide) rfl
    · refine sim_seg [(.iload_n 1, 0, 0, 0), (.bipush 99, 0, 0, 99)] [] (q := 49) (L' := [some (.int b0), some (.int b1)]) (st' := [.int (J 99), .int b1]) (v1 := v) (by decide +kernel) rfl trivial ?_
      refine sim_gt (o := 7) (tg := 56) (f := 52) (by decide +kernel) rfl rfl (fun _ => ?_) (fun _ => ?_)
      · refine sim_seg [(.iconst 0, 0, 0, 0)] [] (q := 57) (L' := [some (.int b0), some (.int b1)]) (st' := [.int (J 0)]) (v1 := v) (by decide +kernel) rfl trivial ?_
        exact sim_iret (by decide +kernel) rfl (by decide) rfl
      · refine sim_seg [(.iconst 1, 0, 0, 1), (.goto 4, 0, 0, 0)] [] (q := 57) (L' := [some (.int b0), some (.int b1)]) (st' := [.int (J 1)]) (v1 := v) (by decide +kernel) rfl trivial ?_
        exact sim_iret (by decide +kernel) rfl (by decide) rfl
  refine sim_tdef (df := 109) (lw := 1) (hg := 6) (offs := #[39, 57, 109, 73, 91, 39]) (len := 39) (tg := 110) (by decide +kernel) rfl (by have eh1 := ne_J h1 (by decide) (by decide); have eh2 := ne_J h2 (by decide) (by decide); have eh3 := ne_J h3 (by decide) (by decide); have eh4 := ne_J h4 (by decide) (by decide); have eh5 := ne_J h5 (by decide) (by decide); have eh6 := ne_J h6 (by decide) (by decide); omega) ?_
  refine sim_seg [(.iconst 0, 0, 0, 0)] [] (q := 111) (L' := [some (.int b0), some (.int b1)]) (st' := [.int (J 0)]) (v1 := v) (by decide +kernel) rfl trivial ?_
  exact sim_iret (by decide +kernel) rfl (by decide) rfl
def B_gc_set : bd := (⟨"GateCounter", "set", "(II)I"⟩, prog_1_method_55_code, 4, (some .int), [], 5, 7)
theorem m_gc_set : mV B_gc_set 5 2 := ⟨⟨⟨by decide +kernel, Or.inl rfl⟩, rfl, (List.mem_of_getElem? (i := 1522) (by decide +kernel)), by decide +kernel, (List.mem_of_getElem? (i := 95) (by decide +kernel)), ⟨by decide, by decide⟩, by decide⟩, rfl, (by unfold nar; decide +kernel), (List.mem_of_getElem? (i := 1520) (by decide +kernel)), rfl, (List.mem_of_getElem? (i := 1521) (by decide +kernel))⟩
noncomputable def F_gc_set (N : Nat) (a0 : Nat) (b1 : Int32) (b2 : Int32) (S : shp) (v : vl) : Option (Nat ⊕ (Int32 × shp × vl)) :=
  (F_gc_maySet b1 b2 S v).bind fun x1 => bx (F_gc_require x1 S v) (fun k0 => some (.inl k0)) fun _ => grd (kin S a0 = some (0, 5)) <| bx (F_gc_setting a0 b1 S v) (fun k0 => some (.inl k0)) fun x3 => (F_gc_keepForUndo N a0 S v).bind fun (S4, w5) => (if b1 = (J 1) then (gr S4 a0 5).bind fun r7 => grd (kin S4 r7 = some (0, 4)) <| (gr S4 r7 6).bind fun r10 => grd (kin S4 r10 = some (0, 0)) <| lt (si w5 r10 1 b2) fun w13 => some (.inr (x3, S4, w13)) else (if b1 = (J 2) then (gr S4 a0 5).bind fun r14 => grd (kin S4 r14 = some (0, 4)) <| (gr S4 r14 6).bind fun r17 => grd (kin S4 r17 = some (0, 0)) <| lt (si w5 r17 2 b2) fun w20 => some (.inr (x3, S4, w20)) else (if b1 = (J 4) then (gr S4 a0 5).bind fun r21 => grd (kin S4 r21 = some (0, 4)) <| lt (si w5 r21 1 b2) fun w24 => some (.inr (x3, S4, w24)) else (if b1 = (J 5) then (gr S4 a0 5).bind fun r25 => grd (kin S4 r25 = some (0, 4)) <| lt (si w5 r25 2 b2) fun w28 => some (.inr (x3, S4, w28)) else (gr S4 a0 5).bind fun r29 => grd (kin S4 r29 = some (0, 4)) <| lt (si w5 r29 3 b2) fun w32 => some (.inr (x3, S4, w32))))))
theorem ok_gc_set (N : Nat) (a0 : Nat) (b1 : Int32) (b2 : Int32) (S : shp) (v : vl) : SimK B_gc_set 0 (entB (bN B_gc_set) [.ref a0, .int b1, .int b2]) [] S v (F_gc_set N a0 b1 b2 S v) (ρzi S v) := by
  show SimK B_gc_set 0 [some (.ref a0), some (.int b1), some (.int b2), none] [] S v (F_gc_set N a0 b1 b2 S v) _
  unfold F_gc_set
  refine sim_seg [(.iload_n 1, 0, 0, 0), (.iload_n 2, 0, 0, 0)] [] (q := 2) (L' := [some (.ref a0), some (.int b1), some (.int b2), none]) (st' := [.int b2, .int b1]) (v1 := v) (by decide +kernel) rfl trivial ?_
  refine sc_ri (pc3 := 5) (cf_S (idx := 316) [.int b1, .int b2] m_gc_maySet ⟨by decide, by decide⟩ (List.mem_of_getElem? (i := 1523) (by decide +kernel)) rfl (Nat.le_of_ble_eq_true rfl) (by decide +kernel) (Nat.le_of_ble_eq_true rfl) rfl) (ok_gc_maySet b1 b2 S v) rfl (fun x1 => ?_)
  refine sc_xv (pc3 := 8) (cf_S (idx := 155) [.int x1] m_gc_require ⟨by decide, by decide⟩ (List.mem_of_getElem? (i := 1306) (by decide +kernel)) rfl (Nat.le_of_ble_eq_true rfl) (by decide +kernel) (Nat.le_of_ble_eq_true rfl) rfl) (ok_gc_require x1 S v) rfl rfl (fun k0 b hb => by cases hb; rfl) (fun _ => ?_)
  refine sim_seg [(.aload_n 0, 0, 0, 0), (.iload_n 1, 0, 0, 0)] [] (q := 10) (L' := [some (.ref a0), some (.int b1), some (.int b2), none]) (st' := [.int b1, .ref a0]) (v1 := v) (by decide +kernel) rfl trivial ?_
  refine sim_grd fun h2 => ?_
  refine sc_xi (pc3 := 13) (cf_V (idx := 320) (ci := 5) [.int b1] m_gc_setting (by decide) ⟨by decide, by decide⟩ (List.mem_of_getElem? (i := 1225) (by decide +kernel)) rfl (Nat.le_of_ble_eq_true rfl) h2 (by decide +kernel) (Nat.le_of_ble_eq_true rfl) rfl) (ok_gc_setting a0 b1 S v) rfl rfl (fun k0 b hb => by cases hb; rfl) (fun x3 => ?_)
  refine sim_seg [(.istore_n 3, 0, 0, 0)] [] (q := 14) (L' := [some (.ref a0), some (.int b1), some (.int b2), some (.int x3)]) (st' := []) (v1 := v) (by decide +kernel) rfl trivial ?_
  refine sim_seg [(.aload_n 0, 0, 0, 0)] [] (q := 15) (L' := [some (.ref a0), some (.int b1), some (.int b2), some (.int x3)]) (st' := [.ref a0]) (v1 := v) (by decide +kernel) rfl trivial ?_
  refine sc_gv (pc3 := 18) (cf_V (idx := 289) (ci := 5) [] m_gc_keepForUndo (by decide) ⟨by decide, by decide⟩ (List.mem_of_getElem? (i := 865) (by decide +kernel)) rfl (Nat.le_of_ble_eq_true rfl) h2 (by decide +kernel) (Nat.le_of_ble_eq_true rfl) rfl) (ok_gc_keepForUndo N a0 S v) rfl (fun S4 w5 h6 => ?_)
  refine sim_seg [(.iload_n 1, 0, 0, 0), (.iconst 1, 0, 0, 1)] [] (q := 20) (L' := [some (.ref a0), some (.int b1), some (.int b2), some (.int x3)]) (st' := [.int (J 1), .int b1]) (v1 := w5) (by decide +kernel) rfl trivial ?_
  refine sim_ne (o := 17) (tg := 37) (f := 23) (by decide +kernel) rfl rfl (fun _ => ?_) (fun _ => ?_)
  · refine sim_bind fun r7 h8 => ?_
    refine sim_grd fun h9 => ?_
    refine sim_bind fun r10 h11 => ?_
    refine sim_grd fun h12 => ?_
    refine sim_seg [(.aload_n 0, 0, 0, 0), (.getfield 26, 5, 5, 0), (.getfield 87, 4, 6, 0), (.iload_n 2, 0, 0, 0), (.putfield 115, 0, 1, 0), (.goto 62, 0, 0, 0), (.iload_n 3, 0, 0, 0)] [r7, r10] (q := 97) (L' := [some (.ref a0), some (.int b1), some (.int b2), some (.int x3)]) (st' := [.int x3]) (v1 := (si w5 r10 1 b2)) (by decide +kernel) rfl ⟨⟨(h6.2.2.2.2 _ _ h2), h8⟩, ⟨h9, h11⟩, h12, trivial⟩ ?_
    refine sim_lt (x := (si w5 r10 1 b2)) ?_
    generalize (si w5 r10 1 b2) = w13
    exact sim_iret (by decide +kernel) rfl rfl rfl
  · refine sim_seg [(.iload_n 1, 0, 0, 0), (.iconst 2, 0, 0, 2)] [] (q := 39) (L' := [some (.ref a0), some (.int b1), some (.int b2), some (.int x3)]) (st' := [.int (J 2), .int b1]) (v1 := w5) (by decide +kernel) rfl trivial ?_
    refine sim_ne (o := 17) (tg := 56) (f := 42) (by decide +kernel) rfl rfl (fun _ => ?_) (fun _ => ?_)
    · refine sim_bind fun r14 h15 => ?_
      refine sim_grd fun h16 => ?_
      refine sim_bind fun r17 h18 => ?_
      refine sim_grd fun h19 => ?_
      refine sim_seg [(.aload_n 0, 0, 0, 0), (.getfield 26, 5, 5, 0), (.getfield 87, 4, 6, 0), (.iload_n 2, 0, 0, 0), (.putfield 118, 0, 2, 0), (.goto 43, 0, 0, 0), (.iload_n 3, 0, 0, 0)] [r14, r17] (q := 97) (L' := [some (.ref a0), some (.int b1), some (.int b2), some (.int x3)]) (st' := [.int x3]) (v1 := (si w5 r17 2 b2)) (by decide +kernel) rfl ⟨⟨(h6.2.2.2.2 _ _ h2), h15⟩, ⟨h16, h18⟩, h19, trivial⟩ ?_
      refine sim_lt (x := (si w5 r17 2 b2)) ?_
      generalize (si w5 r17 2 b2) = w20
      exact sim_iret (by decide +kernel) rfl rfl rfl
    · refine sim_seg [(.iload_n 1, 0, 0, 0), (.iconst 4, 0, 0, 4)] [] (q := 58) (L' := [some (.ref a0), some (.int b1), some (.int b2), some (.int x3)]) (st' := [.int (J 4), .int b1]) (v1 := w5) (by decide +kernel) rfl trivial ?_
      refine sim_ne (o := 14) (tg := 72) (f := 61) (by decide +kernel) rfl rfl (fun _ => ?_) (fun _ => ?_)
      · refine sim_bind fun r21 h22 => ?_
        refine sim_grd fun h23 => ?_
        refine sim_seg [(.aload_n 0, 0, 0, 0), (.getfield 26, 5, 5, 0), (.iload_n 2, 0, 0, 0), (.putfield 124, 4, 1, 0), (.goto 27, 0, 0, 0), (.iload_n 3, 0, 0, 0)] [r21] (q := 97) (L' := [some (.ref a0), some (.int b1), some (.int b2), some (.int x3)]) (st' := [.int x3]) (v1 := (si w5 r21 1 b2)) (by decide +kernel) rfl ⟨⟨(h6.2.2.2.2 _ _ h2), h22⟩, h23, trivial⟩ ?_
        refine sim_lt (x := (si w5 r21 1 b2)) ?_
        generalize (si w5 r21 1 b2) = w24
        exact sim_iret (by decide +kernel) rfl rfl rfl
      · refine sim_seg [(.iload_n 1, 0, 0, 0), (.iconst 5, 0, 0, 5)] [] (q := 74) (L' := [some (.ref a0), some (.int b1), some (.int b2), some (.int x3)]) (st' := [.int (J 5), .int b1]) (v1 := w5) (by decide +kernel) rfl trivial ?_
        refine sim_ne (o := 14) (tg := 88) (f := 77) (by decide +kernel) rfl rfl (fun _ => ?_) (fun _ => ?_)
        · refine sim_bind fun r25 h26 => ?_
          refine sim_grd fun h27 => ?_
          refine sim_seg [(.aload_n 0, 0, 0, 0), (.getfield 26, 5, 5, 0), (.iload_n 2, 0, 0, 0), (.putfield 127, 4, 2, 0), (.goto 11, 0, 0, 0), (.iload_n 3, 0, 0, 0)] [r25] (q := 97) (L' := [some (.ref a0), some (.int b1), some (.int b2), some (.int x3)]) (st' := [.int x3]) (v1 := (si w5 r25 2 b2)) (by decide +kernel) rfl ⟨⟨(h6.2.2.2.2 _ _ h2), h26⟩, h27, trivial⟩ ?_
          refine sim_lt (x := (si w5 r25 2 b2)) ?_
          generalize (si w5 r25 2 b2) = w28
          exact sim_iret (by decide +kernel) rfl rfl rfl
        · refine sim_bind fun r29 h30 => ?_
          refine sim_grd fun h31 => ?_
          refine sim_seg [(.aload_n 0, 0, 0, 0), (.getfield 26, 5, 5, 0), (.iload_n 2, 0, 0, 0), (.putfield 130, 4, 3, 0), (.iload_n 3, 0, 0, 0)] [r29] (q := 97) (L' := [some (.ref a0), some (.int b1), some (.int b2), some (.int x3)]) (st' := [.int x3]) (v1 := (si w5 r29 3 b2)) (by decide +kernel) rfl ⟨⟨(h6.2.2.2.2 _ _ h2), h30⟩, h31, trivial⟩ ?_
          refine sim_lt (x := (si w5 r29 3 b2)) ?_
          generalize (si w5 r29 3 b2) = w32
          exact sim_iret (by decide +kernel) rfl rfl rfl
def B_gc_addSegment : bd := (⟨"GateCounter", "addSegment", "(II)I"⟩, prog_1_method_57_code, 3, (some .int), [], 5, 8)
theorem m_gc_addSegment : mV B_gc_addSegment 5 2 := ⟨⟨⟨by decide +kernel, Or.inl rfl⟩, rfl, (List.mem_of_getElem? (i := 1532) (by decide +kernel)), by decide +kernel, (List.mem_of_getElem? (i := 95) (by decide +kernel)), ⟨by decide, by decide⟩, by decide⟩, rfl, (by unfold nar; decide +kernel), (List.mem_of_getElem? (i := 1530) (by decide +kernel)), rfl, (List.mem_of_getElem? (i := 1531) (by decide +kernel))⟩
noncomputable def F_gc_addSegment (N : Nat) (a0 : Nat) (b1 : Int32) (b2 : Int32) (S : shp) (v : vl) : Option (Nat ⊕ (Int32 × shp × vl)) :=
  grd (kin S a0 = some (0, 5)) <| (gr S a0 5).bind fun r2 => grd (kin S r2 = some (0, 4)) <| (gr S r2 7).bind fun r5 => grd (kin S r5 = some (0, 3)) <| (F_sg_lastTime r5 S v).bind fun x8 => (F_ma_max (gi v r2 0) x8 S v).bind fun x9 => bx (F_gc_requireWithin b1 (x9 + (J 1)) (J 1999999) S v) (fun k0 => some (.inl k0)) fun _ => bx (F_gc_requireWithin b2 (J 0) (J 9999) S v) (fun k0 => some (.inl k0)) fun _ => (if (gi v r5 8) < (J 8) then (F_gc_keepForUndo N a0 S v).bind fun (S10, w11) => (gr S10 a0 5).bind fun r13 => grd (kin S10 r13 = some (0, 4)) <| (gr S10 r13 7).bind fun r16 => grd (kin S10 r16 = some (0, 3)) <| (F_sg_append r16 b1 b2 S10 w11).bind fun w19 => some (.inr (((gi w19 r16 8) - (J 1)), S10, w19)) else some (.inl 2))
theorem ok_gc_addSegment (N : Nat) (a0 : Nat) (b1 : Int32) (b2 : Int32) (S : shp) (v : vl) : SimK B_gc_addSegment 0 (entB (bN B_gc_addSegment) [.ref a0, .int b1, .int b2]) [] S v (F_gc_addSegment N a0 b1 b2 S v) (ρzi S v) := by
  show SimK B_gc_addSegment 0 [some (.ref a0), some (.int b1), some (.int b2)] [] S v (F_gc_addSegment N a0 b1 b2 S v) _
  unfold F_gc_addSegment
  refine sim_grd fun h1 => ?_
  refine sim_bind fun r2 h3 => ?_
  refine sim_grd fun h4 => ?_
  refine sim_bind fun r5 h6 => ?_
  refine sim_seg [(.iload_n 1, 0, 0, 0), (.aload_n 0, 0, 0, 0), (.getfield 26, 5, 5, 0), (.getfield 84, 4, 0, 0), (.aload_n 0, 0, 0, 0), (.getfield 26, 5, 5, 0), (.getfield 69, 4, 7, 0)] [r2, r2, r5] (q := 15) (L' := [some (.ref a0), some (.int b1), some (.int b2)]) (st' := [.ref r5, .int (gi v r2 0), .int b1]) (v1 := v) (by decide +kernel) rfl ⟨⟨h1, h3⟩, h4, ⟨h1, h3⟩, ⟨h4, h6⟩, trivial⟩ ?_
  refine sim_grd fun h7 => ?_
  refine sc_ri (pc3 := 18) (cf_V (idx := 323) (ci := 3) [] m_sg_lastTime (by decide) ⟨by decide, by decide⟩ (List.mem_of_getElem? (i := 1533) (by decide +kernel)) rfl (Nat.le_of_ble_eq_true rfl) h7 (by decide +kernel) (Nat.le_of_ble_eq_true rfl) rfl) (ok_sg_lastTime r5 S v) rfl (fun x8 => ?_)
  refine sc_ri (pc3 := 21) (cf_S (idx := 226) [.int (gi v r2 0), .int x8] m_ma_max ⟨by decide, by decide⟩ (List.mem_of_getElem? (i := 695) (by decide +kernel)) rfl (Nat.le_of_ble_eq_true rfl) (by decide +kernel) (Nat.le_of_ble_eq_true rfl) rfl) (ok_ma_max (gi v r2 0) x8 S v) rfl (fun x9 => ?_)
  refine sim_seg [(.iconst 1, 0, 0, 1), (.iadd, 0, 0, 0), (.ldc_w 326, 0, 0, 1999999)] [] (q := 26) (L' := [some (.ref a0), some (.int b1), some (.int b2)]) (st' := [.int (J 1999999), .int (x9 + (J 1)), .int b1]) (v1 := v) (by decide +kernel) rfl trivial ?_
  refine sc_xv (pc3 := 29) (cf_S (idx := 170) [.int b1, .int (x9 + (J 1)), .int (J 1999999)] m_gc_requireWithin ⟨by decide, by decide⟩ (List.mem_of_getElem? (i := 1321) (by decide +kernel)) rfl (Nat.le_of_ble_eq_true rfl) (by decide +kernel) (Nat.le_of_ble_eq_true rfl) rfl) (ok_gc_requireWithin b1 (x9 + (J 1)) (J 1999999) S v) rfl rfl (fun k0 b hb => by cases hb; rfl) (fun _ => ?_)
  refine sim_seg [(.iload_n 2, 0, 0, 0), (.iconst 0, 0, 0, 0), (.sipush 9999, 0, 0, 9999)] [] (q := 34) (L' := [some (.ref a0), some (.int b1), some (.int b2)]) (st' := [.int (J 9999), .int (J 0), .int b2]) (v1 := v) (by decide +kernel) rfl trivial ?_
  refine sc_xv (pc3 := 37) (cf_S (idx := 170) [.int b2, .int (J 0), .int (J 9999)] m_gc_requireWithin ⟨by decide, by decide⟩ (List.mem_of_getElem? (i := 1321) (by decide +kernel)) rfl (Nat.le_of_ble_eq_true rfl) (by decide +kernel) (Nat.le_of_ble_eq_true rfl) rfl) (ok_gc_requireWithin b2 (J 0) (J 9999) S v) rfl rfl (fun k0 b hb => by cases hb; rfl) (fun _ => ?_)
  refine sim_seg [(.aload_n 0, 0, 0, 0), (.getfield 26, 5, 5, 0), (.getfield 69, 4, 7, 0), (.getfield 73, 3, 8, 0), (.bipush 8, 0, 0, 8)] [r2, r5] (q := 49) (L' := [some (.ref a0), some (.int b1), some (.int b2)]) (st' := [.int (J 8), .int (gi v r5 8)]) (v1 := v) (by decide +kernel) rfl ⟨⟨h1, h3⟩, ⟨h4, h6⟩, h7, trivial⟩ ?_
  refine sim_lt' (o := 11) (tg := 60) (f := 52) (by decide +kernel) rfl rfl (fun _ => ?_) (fun _ => ?_)
  · refine sim_seg [(.aload_n 0, 0, 0, 0)] [] (q := 61) (L' := [some (.ref a0), some (.int b1), some (.int b2)]) (st' := [.ref a0]) (v1 := v) (by decide +kernel) rfl trivial ?_
    refine sc_gv (pc3 := 64) (cf_V (idx := 289) (ci := 5) [] m_gc_keepForUndo (by decide) ⟨by decide, by decide⟩ (List.mem_of_getElem? (i := 865) (by decide +kernel)) rfl (Nat.le_of_ble_eq_true rfl) h1 (by decide +kernel) (Nat.le_of_ble_eq_true rfl) rfl) (ok_gc_keepForUndo N a0 S v) rfl (fun S10 w11 h12 => ?_)
    refine sim_bind fun r13 h14 => ?_
    refine sim_grd fun h15 => ?_
    refine sim_bind fun r16 h17 => ?_
    refine sim_seg [(.aload_n 0, 0, 0, 0), (.getfield 26, 5, 5, 0), (.getfield 69, 4, 7, 0), (.iload_n 1, 0, 0, 0), (.iload_n 2, 0, 0, 0)] [r13, r16] (q := 73) (L' := [some (.ref a0), some (.int b1), some (.int b2)]) (st' := [.int b2, .int b1, .ref r16]) (v1 := w11) (by decide +kernel) rfl ⟨⟨(h12.2.2.2.2 _ _ h1), h14⟩, ⟨h15, h17⟩, trivial⟩ ?_
    refine sim_grd fun h18 => ?_
    refine sc_pv (pc3 := 76) (cf_V (idx := 327) (ci := 3) [.int b1, .int b2] m_sg_append (by decide) ⟨by decide, by decide⟩ (List.mem_of_getElem? (i := 1535) (by decide +kernel)) rfl (Nat.le_of_ble_eq_true rfl) h18 (by decide +kernel) (Nat.le_of_ble_eq_true rfl) rfl) (ok_sg_append r16 b1 b2 S10 w11) rfl (fun w19 => ?_)
    refine sim_seg [(.aload_n 0, 0, 0, 0), (.getfield 26, 5, 5, 0), (.getfield 69, 4, 7, 0), (.getfield 73, 3, 8, 0), (.iconst 1, 0, 0, 1), (.isub, 0, 0, 0)] [r13, r16] (q := 88) (L' := [some (.ref a0), some (.int b1), some (.int b2)]) (st' := [.int ((gi w19 r16 8) - (J 1))]) (v1 := w19) (by decide +kernel) rfl ⟨⟨(h12.2.2.2.2 _ _ h1), h14⟩, ⟨h15, h17⟩, h18, trivial⟩ ?_
    exact sim_iret (by decide +kernel) rfl rfl rfl
  · exact sim_throw thr2 rfl rfl (by decide) (by decide +kernel) (by decide +kernel) (by decide +kernel) (by decide +kernel) (Nat.le_of_ble_eq_true rfl) rfl
def B_gc_dropSegment : bd := (⟨"GateCounter", "dropSegment", "()I"⟩, prog_1_method_58_code, 1, (some .int), [], 5, 6)
theorem m_gc_dropSegment : mV B_gc_dropSegment 5 0 := ⟨⟨⟨by decide +kernel, Or.inl rfl⟩, rfl, (List.mem_of_getElem? (i := 1542) (by decide +kernel)), by decide +kernel, (List.mem_of_getElem? (i := 95) (by decide +kernel)), ⟨by decide, by decide⟩, by decide⟩, rfl, (by unfold nar; decide +kernel), (List.mem_of_getElem? (i := 1540) (by decide +kernel)), rfl, (List.mem_of_getElem? (i := 1541) (by decide +kernel))⟩
noncomputable def F_gc_dropSegment (N : Nat) (a0 : Nat) (S : shp) (v : vl) : Option (Nat ⊕ (Int32 × shp × vl)) :=
  grd (kin S a0 = some (0, 5)) <| (gr S a0 5).bind fun r2 => grd (kin S r2 = some (0, 4)) <| (gr S r2 7).bind fun r5 => grd (kin S r5 = some (0, 3)) <| (if (gi v r5 9) < (gi v r5 8) then (F_gc_keepForUndo N a0 S v).bind fun (S8, w9) => (gr S8 a0 5).bind fun r11 => grd (kin S8 r11 = some (0, 4)) <| (gr S8 r11 7).bind fun r14 => grd (kin S8 r14 = some (0, 3)) <| lt (si w9 r14 8 ((gi w9 r14 8) - (J 1))) fun w17 => some (.inr ((gi w17 r14 8), S8, w17)) else some (.inl 2))
theorem ok_gc_dropSegment (N : Nat) (a0 : Nat) (S : shp) (v : vl) : SimK B_gc_dropSegment 0 (entB (bN B_gc_dropSegment) [.ref a0]) [] S v (F_gc_dropSegment N a0 S v) (ρzi S v) := by
  show SimK B_gc_dropSegment 0 [some (.ref a0)] [] S v (F_gc_dropSegment N a0 S v) _
  unfold F_gc_dropSegment
  refine sim_grd fun h1 => ?_
  refine sim_bind fun r2 h3 => ?_
  refine sim_grd fun h4 => ?_
  refine sim_bind fun r5 h6 => ?_
  refine sim_grd fun h7 => ?_
  refine sim_seg [(.aload_n 0, 0, 0, 0), (.getfield 26, 5, 5, 0), (.getfield 69, 4, 7, 0), (.getfield 100, 3, 9, 0), (.aload_n 0, 0, 0, 0), (.getfield 26, 5, 5, 0), (.getfield 69, 4, 7, 0), (.getfield 73, 3, 8, 0)] [r2, r5, r2, r5] (q := 20) (L' := [some (.ref a0)]) (st' := [.int (gi v r5 8), .int (gi v r5 9)]) (v1 := v) (by decide +kernel) rfl ⟨⟨h1, h3⟩, ⟨h4, h6⟩, h7, ⟨h1, h3⟩, ⟨h4, h6⟩, h7, trivial⟩ ?_
  refine sim_lt' (o := 11) (tg := 31) (f := 23) (by decide +kernel) rfl rfl (fun _ => ?_) (fun _ => ?_)
  · refine sim_seg [(.aload_n 0, 0, 0, 0)] [] (q := 32) (L' := [some (.ref a0)]) (st' := [.ref a0]) (v1 := v) (by decide +kernel) rfl trivial ?_
    refine sc_gv (pc3 := 35) (cf_V (idx := 289) (ci := 5) [] m_gc_keepForUndo (by decide) ⟨by decide, by decide⟩ (List.mem_of_getElem? (i := 865) (by decide +kernel)) rfl (Nat.le_of_ble_eq_true rfl) h1 (by decide +kernel) (Nat.le_of_ble_eq_true rfl) rfl) (ok_gc_keepForUndo N a0 S v) rfl (fun S8 w9 h10 => ?_)
    refine sim_bind fun r11 h12 => ?_
    refine sim_grd fun h13 => ?_
    refine sim_bind fun r14 h15 => ?_
    refine sim_grd fun h16 => ?_
    refine sim_seg [(.aload_n 0, 0, 0, 0), (.getfield 26, 5, 5, 0), (.getfield 69, 4, 7, 0), (.dup, 0, 0, 0), (.getfield 73, 3, 8, 0), (.iconst 1, 0, 0, 1), (.isub, 0, 0, 0), (.putfield 73, 3, 8, 0), (.aload_n 0, 0, 0, 0)] [r11, r14] (q := 52) (L' := [some (.ref a0)]) (st' := [.ref a0]) (v1 := (si w9 r14 8 ((gi w9 r14 8) - (J 1)))) (by decide +kernel) rfl ⟨⟨(h10.2.2.2.2 _ _ h1), h12⟩, ⟨h13, h15⟩, h16, h16, trivial⟩ ?_
    refine sim_lt (x := (si w9 r14 8 ((gi w9 r14 8) - (J 1)))) ?_
    generalize (si w9 r14 8 ((gi w9 r14 8) - (J 1))) = w17
    refine sim_seg [(.getfield 26, 5, 5, 0), (.getfield 69, 4, 7, 0), (.getfield 73, 3, 8, 0)] [r11, r14] (q := 61) (L' := [some (.ref a0)]) (st' := [.int (gi w17 r14 8)]) (v1 := w17) (by decide +kernel) rfl ⟨⟨(h10.2.2.2.2 _ _ h1), h12⟩, ⟨h13, h15⟩, h16, trivial⟩ ?_
    exact sim_iret (by decide +kernel) rfl rfl rfl
  · exact sim_throw thr2 rfl rfl (by decide) (by decide +kernel) (by decide +kernel) (by decide +kernel) (by decide +kernel) (Nat.le_of_ble_eq_true rfl) rfl
def B_gc_drop : bd := (⟨"GateCounter", "drop", "(I)I"⟩, prog_1_method_59_code, 2, (some .int), [], 5, 7)
theorem m_gc_drop : mV B_gc_drop 5 1 := ⟨⟨⟨by decide +kernel, Or.inl rfl⟩, rfl, (List.mem_of_getElem? (i := 1549) (by decide +kernel)), by decide +kernel, (List.mem_of_getElem? (i := 95) (by decide +kernel)), ⟨by decide, by decide⟩, by decide⟩, rfl, (by unfold nar; decide +kernel), (List.mem_of_getElem? (i := 1547) (by decide +kernel)), rfl, (List.mem_of_getElem? (i := 1548) (by decide +kernel))⟩
noncomputable def F_gc_drop (N : Nat) (a0 : Nat) (b1 : Int32) (S : shp) (v : vl) : Option (Nat ⊕ (Int32 × shp × vl)) :=
  grd (kin S a0 = some (0, 5)) <| bx (F_gc_found a0 b1 S v) (fun k0 => some (.inl k0)) fun q2 => oc2 q2 none fun r3 => (F_gc_keepForUndo N a0 S v).bind fun (S4, w5) => (gr S4 a0 5).bind fun r7 => grd (kin S4 r7 = some (0, 4)) <| (F_st_forget N r7 b1 S4 w5).bind fun (S10, w11) => (gr S10 a0 5).bind fun r13 => grd (kin S10 r13 = some (0, 4)) <| some (.inr ((gi w11 r13 5), S10, w11))
theorem ok_gc_drop (N : Nat) (a0 : Nat) (b1 : Int32) (S : shp) (v : vl) : SimK B_gc_drop 0 (entB (bN B_gc_drop) [.ref a0, .int b1]) [] S v (F_gc_drop N a0 b1 S v) (ρzi S v) := by
  show SimK B_gc_drop 0 [some (.ref a0), some (.int b1)] [] S v (F_gc_drop N a0 b1 S v) _
  unfold F_gc_drop
  refine sim_seg [(.aload_n 0, 0, 0, 0), (.iload_n 1, 0, 0, 0)] [] (q := 2) (L' := [some (.ref a0), some (.int b1)]) (st' := [.int b1, .ref a0]) (v1 := v) (by decide +kernel) rfl trivial ?_
  refine sim_grd fun h1 => ?_
  refine sc_xq (pc3 := 5) (cf_V (idx := 166) (ci := 5) [.int b1] m_gc_found (by decide) ⟨by decide, by decide⟩ (List.mem_of_getElem? (i := 1316) (by decide +kernel)) rfl (Nat.le_of_ble_eq_true rfl) h1 (by decide +kernel) (Nat.le_of_ble_eq_true rfl) rfl) (ok_gc_found a0 b1 S v) rfl rfl (fun k0 b hb => by cases hb; rfl) (fun q2 => ?_)
  refine sim_oc2 (fun _ => sim_none) (fun r3 _ => ?_)
  refine sim_seg [(.pop, 0, 0, 0), (.aload_n 0, 0, 0, 0)] [] (q := 7) (L' := [some (.ref a0), some (.int b1)]) (st' := [.ref a0]) (v1 := v) (by decide +kernel) rfl trivial ?_
  refine sc_gv (pc3 := 10) (cf_V (idx := 289) (ci := 5) [] m_gc_keepForUndo (by decide) ⟨by decide, by decide⟩ (List.mem_of_getElem? (i := 865) (by decide +kernel)) rfl (Nat.le_of_ble_eq_true rfl) h1 (by decide +kernel) (Nat.le_of_ble_eq_true rfl) rfl) (ok_gc_keepForUndo N a0 S v) rfl (fun S4 w5 h6 => ?_)
  refine sim_bind fun r7 h8 => ?_
  refine sim_seg [(.aload_n 0, 0, 0, 0), (.getfield 26, 5, 5, 0), (.iload_n 1, 0, 0, 0)] [r7] (q := 15) (L' := [some (.ref a0), some (.int b1)]) (st' := [.int b1, .ref r7]) (v1 := w5) (by decide +kernel) rfl ⟨⟨(h6.2.2.2.2 _ _ h1), h8⟩, trivial⟩ ?_
  refine sim_grd fun h9 => ?_
  refine sc_gv (pc3 := 18) (cf_V (idx := 330) (ci := 4) [.int b1] m_st_forget (by decide) ⟨by decide, by decide⟩ (List.mem_of_getElem? (i := 1550) (by decide +kernel)) rfl (Nat.le_of_ble_eq_true rfl) h9 (by decide +kernel) (Nat.le_of_ble_eq_true rfl) rfl) (ok_st_forget N r7 b1 S4 w5) rfl (fun S10 w11 h12 => ?_)
  refine sim_bind fun r13 h14 => ?_
  refine sim_grd fun h15 => ?_
  refine sim_seg [(.aload_n 0, 0, 0, 0), (.getfield 26, 5, 5, 0), (.getfield 106, 4, 5, 0)] [r13] (q := 25) (L' := [some (.ref a0), some (.int b1)]) (st' := [.int (gi w11 r13 5)]) (v1 := w11) (by decide +kernel) rfl ⟨⟨(h12.2.2.2.2 _ _ (h6.2.2.2.2 _ _ h1)), h14⟩, h15, trivial⟩ ?_
  exact sim_iret (by decide +kernel) rfl rfl rfl
def B_gc_undo : bd := (⟨"GateCounter", "undo", "()I"⟩, prog_1_method_60_code, 1, (some .int), [], 5, 6)
theorem m_gc_undo : mV B_gc_undo 5 0 := ⟨⟨⟨by decide +kernel, Or.inl rfl⟩, rfl, (List.mem_of_getElem? (i := 1558) (by decide +kernel)), by decide +kernel, (List.mem_of_getElem? (i := 95) (by decide +kernel)), ⟨by decide, by decide⟩, by decide⟩, rfl, (by unfold nar; decide +kernel), (List.mem_of_getElem? (i := 1556) (by decide +kernel)), rfl, (List.mem_of_getElem? (i := 1557) (by decide +kernel))⟩
noncomputable def F_gc_undo (N : Nat) (a0 : Nat) (S : shp) (v : vl) : Option (Nat ⊕ (Int32 × shp × vl)) :=
  grd (kin S a0 = some (0, 5)) <| (if (J 0) < (gi v a0 12) then lt (si v a0 12 ((gi v a0 12) - (J 1))) fun w2 => lt (si w2 a0 11 ((gi w2 a0 11) - (J 1))) fun w3 => (gr S a0 5).bind fun r4 => (gr S a0 10).bind fun r6 => (F_ma_floorMod (gi w3 a0 11) (J 8) S w3).bind fun x8 => grd (kin S r6 = some (4, 8)) <| grd (vp_in x8 (alen S r6)) <| (gr S r6 (Int32.toNatClampNeg x8)).bind fun r11 => grd (kin S r4 = some (0, 4)) <| (F_st_copyFrom N r4 r11 S w3).bind fun (S14, w15) => some (.inr ((gi w15 a0 12), S14, w15)) else some (.inl 3))
theorem ok_gc_undo (N : Nat) (a0 : Nat) (S : shp) (v : vl) : SimK B_gc_undo 0 (entB (bN B_gc_undo) [.ref a0]) [] S v (F_gc_undo N a0 S v) (ρzi S v) := by
  show SimK B_gc_undo 0 [some (.ref a0)] [] S v (F_gc_undo N a0 S v) _
  unfold F_gc_undo
  refine sim_grd fun h1 => ?_
  refine sim_seg [(.aload_n 0, 0, 0, 0), (.getfield 62, 5, 12, 0)] [] (q := 4) (L' := [some (.ref a0)]) (st' := [.int (gi v a0 12)]) (v1 := v) (by decide +kernel) rfl ⟨h1, trivial⟩ ?_
  refine sim_gt0 (o := 11) (tg := 15) (f := 7) (by decide +kernel) rfl rfl (fun _ => ?_) (fun _ => ?_)
  · refine sim_seg [(.aload_n 0, 0, 0, 0), (.dup, 0, 0, 0), (.getfield 62, 5, 12, 0), (.iconst 1, 0, 0, 1), (.isub, 0, 0, 0), (.putfield 62, 5, 12, 0), (.aload_n 0, 0, 0, 0), (.dup, 0, 0, 0)] [] (q := 27) (L' := [some (.ref a0)]) (st' := [.ref a0, .ref a0]) (v1 := (si v a0 12 ((gi v a0 12) - (J 1)))) (by decide +kernel) rfl ⟨h1, h1, trivial⟩ ?_
    refine sim_lt (x := (si v a0 12 ((gi v a0 12) - (J 1)))) ?_
    generalize (si v a0 12 ((gi v a0 12) - (J 1))) = w2
    refine sim_seg [(.getfield 336, 5, 11, 0), (.iconst 1, 0, 0, 1), (.isub, 0, 0, 0), (.putfield 336, 5, 11, 0), (.aload_n 0, 0, 0, 0)] [] (q := 36) (L' := [some (.ref a0)]) (st' := [.ref a0]) (v1 := (si w2 a0 11 ((gi w2 a0 11) - (J 1)))) (by decide +kernel) rfl ⟨h1, h1, trivial⟩ ?_
    refine sim_lt (x := (si w2 a0 11 ((gi w2 a0 11) - (J 1)))) ?_
    generalize (si w2 a0 11 ((gi w2 a0 11) - (J 1))) = w3
    refine sim_bind fun r4 h5 => ?_
    refine sim_bind fun r6 h7 => ?_
    refine sim_seg [(.getfield 26, 5, 5, 0), (.aload_n 0, 0, 0, 0), (.getfield 39, 5, 10, 0), (.aload_n 0, 0, 0, 0), (.getfield 336, 5, 11, 0), (.bipush 8, 0, 0, 8)] [r4, r6] (q := 49) (L' := [some (.ref a0)]) (st' := [.int (J 8), .int (gi w3 a0 11), .ref r6, .ref r4]) (v1 := w3) (by decide +kernel) rfl ⟨⟨h1, h5⟩, ⟨h1, h7⟩, h1, trivial⟩ ?_
    refine sc_ri (pc3 := 52) (cf_S (idx := 339) [.int (gi w3 a0 11), .int (J 8)] m_ma_floorMod ⟨by decide, by decide⟩ (List.mem_of_getElem? (i := 869) (by decide +kernel)) rfl (Nat.le_of_ble_eq_true rfl) (by decide +kernel) (Nat.le_of_ble_eq_true rfl) rfl) (ok_ma_floorMod (gi w3 a0 11) (J 8) S w3) rfl (fun x8 => ?_)
    refine sim_grd fun h9 => ?_
    refine sim_grd fun h10 => ?_
    refine sim_bind fun r11 h12 => ?_
    refine sim_seg [(.aaload, 0, 0, 0)] [r11] (q := 53) (L' := [some (.ref a0)]) (st' := [.ref r11, .ref r4]) (v1 := w3) (by decide +kernel) rfl ⟨⟨Or.inl (kin_alen h9), h10, h12⟩, trivial⟩ ?_
    refine sim_grd fun h13 => ?_
    refine sc_gv (pc3 := 56) (cf_V (idx := 58) (ci := 4) [.ref r11] m_st_copyFrom (by decide) ⟨by decide, by decide⟩ (List.mem_of_getElem? (i := 570) (by decide +kernel)) rfl (Nat.le_of_ble_eq_true rfl) h13 (by decide +kernel) (Nat.le_of_ble_eq_true rfl) rfl) (ok_st_copyFrom N r4 r11 S w3) rfl (fun S14 w15 h16 => ?_)
    refine sim_seg [(.aload_n 0, 0, 0, 0), (.getfield 62, 5, 12, 0)] [] (q := 60) (L' := [some (.ref a0)]) (st' := [.int (gi w15 a0 12)]) (v1 := w15) (by decide +kernel) rfl ⟨(h16.2.2.2.2 _ _ h1), trivial⟩ ?_
    exact sim_iret (by decide +kernel) rfl rfl rfl
  · exact sim_throw thr3 rfl rfl (by decide) (by decide +kernel) (by decide +kernel) (by decide +kernel) (by decide +kernel) (Nat.le_of_ble_eq_true rfl) rfl
def B_ab_setCharAt : bd := (⟨"java/lang/AbstractStringBuilder", "setCharAt", "(IC)V"⟩, prog_10_method_20_code, 3, none, [], 8, 2)
theorem m_ab_setCharAtP : mP B_ab_setCharAt 2 := ⟨⟨⟨by decide +kernel, Or.inl rfl⟩, rfl, (List.mem_of_getElem? (i := 1587) (by decide +kernel)), by decide +kernel, (List.mem_of_getElem? (i := 100) (by decide +kernel)), ⟨by decide, by decide⟩, by decide⟩, rfl, (by unfold nar; decide +kernel), (List.mem_of_getElem? (i := 1586) (by decide +kernel)), (List.mem_of_getElem? (i := 2246) (by decide +kernel)), (List.mem_of_getElem? (i := 373) (by decide +kernel)), by decide⟩
noncomputable def F_ab_setCharAt (a0 : Nat) (b1 : Int32) (b2 : Int32) (S : shp) (v : vl) : Option vl :=
  grd (kin S a0 = some (0, 7)) <| (F_js_checkIndex b1 (gi v a0 3) S v).bind fun _ => (F_ab_isLatin1 a0 S v).bind fun x2 => (if x2 = (J 0) then none else (F_l1_canEncode b2 S v).bind fun x3 => (if x3 = (J 0) then none else (gr S a0 0).bind fun r4 => grd (kin S r4 = some (2, alen S r4)) <| grd (vp_in b1 (alen S r4)) <| lt (si v r4 (Int32.toNatClampNeg b1) (Int8.toInt32 (Int32.toInt8 (Int8.toInt32 (Int32.toInt8 b2))))) fun w8 => some (w8)))
theorem ok_ab_setCharAt (a0 : Nat) (b1 : Int32) (b2 : Int32) (S : shp) (v : vl) : SimK B_ab_setCharAt 0 (entB (bN B_ab_setCharAt) [.ref a0, .int b1, .int b2]) [] S v (F_ab_setCharAt a0 b1 b2 S v) (ρpv S) := by
  show SimK B_ab_setCharAt 0 [some (.ref a0), some (.int b1), some (.int b2)] [] S v (F_ab_setCharAt a0 b1 b2 S v) _
  unfold F_ab_setCharAt
  refine sim_grd fun h1 => ?_
  refine sim_seg [(.iload_n 1, 0, 0, 0), (.aload_n 0, 0, 0, 0), (.getfield 79, 7, 3, 0)] [] (q := 5) (L' := [some (.ref a0), some (.int b1), some (.int b2)]) (st' := [.int (gi v a0 3), .int b1]) (v1 := v) (by decide +kernel) rfl ⟨h1, trivial⟩ ?_
  refine sc_rv (pc3 := 8) (cf_S (idx := 144) [.int b1, .int (gi v a0 3)] m_js_checkIndex ⟨by decide, by decide⟩ (List.mem_of_getElem? (i := 1258) (by decide +kernel)) rfl (Nat.le_of_ble_eq_true rfl) (by decide +kernel) (Nat.le_of_ble_eq_true rfl) rfl) (ok_js_checkIndex b1 (gi v a0 3) S v) rfl (fun _ => ?_)
  refine sim_seg [(.aload_n 0, 0, 0, 0)] [] (q := 9) (L' := [some (.ref a0), some (.int b1), some (.int b2)]) (st' := [.ref a0]) (v1 := v) (by decide +kernel) rfl trivial ?_
  refine sc_ri (pc3 := 12) (cf_U (idx := 83) [] m_ab_isLatin1 ⟨by decide, by decide⟩ (List.mem_of_getElem? (i := 950) (by decide +kernel)) rfl (Nat.le_of_ble_eq_true rfl) h1 (by decide +kernel) (Nat.le_of_ble_eq_true rfl) rfl) (ok_ab_isLatin1 a0 S v) rfl (fun x2 => ?_)
  refine sim_eq0 (o := 21) (tg := 33) (f := 15) (by decide +kernel) rfl rfl (fun _ => ?_) (fun _ => ?_)
  · exact sim_none
  · refine sim_seg [(.iload_n 2, 0, 0, 0)] [] (q := 16) (L' := [some (.ref a0), some (.int b1), some (.int b2)]) (st' := [.int b2]) (v1 := v) (by decide +kernel) rfl trivial ?_
    refine sc_ri (pc3 := 19) (cf_S (idx := 191) [.int b2] m_l1_canEncode ⟨by decide, by decide⟩ (List.mem_of_getElem? (i := 1219) (by decide +kernel)) rfl (Nat.le_of_ble_eq_true rfl) (by decide +kernel) (Nat.le_of_ble_eq_true rfl) rfl) (ok_l1_canEncode b2 S v) rfl (fun x3 => ?_)
    refine sim_eq0 (o := 14) (tg := 33) (f := 22) (by decide +kernel) rfl rfl (fun _ => ?_) (fun _ => ?_)
    · exact sim_none
    · refine sim_bind fun r4 h5 => ?_
      refine sim_grd fun h6 => ?_
      refine sim_grd fun h7 => ?_
      refine sim_seg [(.aload_n 0, 0, 0, 0), (.getfield 15, 7, 0, 0), (.iload_n 1, 0, 0, 0), (.iload_n 2, 0, 0, 0), (.i2b, 0, 0, 0), (.bastore, 0, 0, 0), (.goto 28, 0, 0, 0)] [r4] (q := 58) (L' := [some (.ref a0), some (.int b1), some (.int b2)]) (st' := []) (v1 := (si v r4 (Int32.toNatClampNeg b1) (Int8.toInt32 (Int32.toInt8 (Int8.toInt32 (Int32.toInt8 b2)))))) (by decide +kernel) rfl ⟨⟨h1, h5⟩, ⟨h6, h7⟩, trivial⟩ ?_
      refine sim_lt (x := (si v r4 (Int32.toNatClampNeg b1) (Int8.toInt32 (Int32.toInt8 (Int8.toInt32 (Int32.toInt8 b2)))))) ?_
      generalize (si v r4 (Int32.toNatClampNeg b1) (Int8.toInt32 (Int32.toInt8 (Int8.toInt32 (Int32.toInt8 b2))))) = w8
      exact sim_vret (by decide +kernel) rfl rfl
def B_sb_setCharAt : bd := (⟨"java/lang/StringBuilder", "setCharAt", "(IC)V"⟩, prog_25_method_82_code, 3, none, [], 7, 3)
theorem m_sb_setCharAt : mV B_sb_setCharAt 7 2 := ⟨⟨⟨by decide +kernel, Or.inl rfl⟩, rfl, (List.mem_of_getElem? (i := 1584) (by decide +kernel)), by decide +kernel, (List.mem_of_getElem? (i := 101) (by decide +kernel)), ⟨by decide, by decide⟩, by decide⟩, rfl, (by unfold nar; decide +kernel), (List.mem_of_getElem? (i := 1582) (by decide +kernel)), rfl, (List.mem_of_getElem? (i := 1583) (by decide +kernel))⟩
noncomputable def F_sb_setCharAt (a0 : Nat) (b1 : Int32) (b2 : Int32) (S : shp) (v : vl) : Option vl :=
  grd (kin S a0 = some (0, 7)) <| (F_ab_setCharAt a0 b1 b2 S v).bind fun w2 => some (w2)
theorem ok_sb_setCharAt (a0 : Nat) (b1 : Int32) (b2 : Int32) (S : shp) (v : vl) : SimK B_sb_setCharAt 0 (entB (bN B_sb_setCharAt) [.ref a0, .int b1, .int b2]) [] S v (F_sb_setCharAt a0 b1 b2 S v) (ρpv S) := by
  show SimK B_sb_setCharAt 0 [some (.ref a0), some (.int b1), some (.int b2)] [] S v (F_sb_setCharAt a0 b1 b2 S v) _
  unfold F_sb_setCharAt
  refine sim_seg [(.aload_n 0, 0, 0, 0), (.iload_n 1, 0, 0, 0), (.iload_n 2, 0, 0, 0)] [] (q := 3) (L' := [some (.ref a0), some (.int b1), some (.int b2)]) (st' := [.int b2, .int b1, .ref a0]) (v1 := v) (by decide +kernel) rfl trivial ?_
  refine sim_grd fun h1 => ?_
  refine sc_pv (pc3 := 6) (cf_P (idx := 308) [.int b1, .int b2] m_ab_setCharAtP ⟨by decide, by decide⟩ rfl (List.mem_of_getElem? (i := 1585) (by decide +kernel)) rfl (Nat.le_of_ble_eq_true rfl) h1 (by decide +kernel) (Nat.le_of_ble_eq_true rfl) rfl) (ok_ab_setCharAt a0 b1 b2 S v) rfl (fun w2 => ?_)
  exact sim_vret (by decide +kernel) rfl rfl
def B_gc_printMeasurement : bd := (⟨"GateCounter", "printMeasurement", "(I)I"⟩, prog_1_method_61_code, 5, (some .int), [], 5, 7)
theorem m_gc_printMeasurement : mV B_gc_printMeasurement 5 1 := ⟨⟨⟨by decide +kernel, Or.inl rfl⟩, rfl, (List.mem_of_getElem? (i := 1580) (by decide +kernel)), by decide +kernel, (List.mem_of_getElem? (i := 95) (by decide +kernel)), ⟨by decide, by decide⟩, by decide⟩, rfl, (by unfold nar; decide +kernel), (List.mem_of_getElem? (i := 1578) (by decide +kernel)), rfl, (List.mem_of_getElem? (i := 1579) (by decide +kernel))⟩
noncomputable def Y_gc_printMeasurement_83 (N : Nat)  (i83 : shp → vl → Nat → Int32 → Option (Nat ⊕ (Int32 × shp × vl)))  (S : shp) (v : vl) (p0 : Nat) (p4 : Int32) : Option (Nat ⊕ (Int32 × shp × vl)) :=
  grd (kin S p0 = some (0, 5)) <| (gr S p0 1).bind fun r45 => grd (kin S r45 = some (0, 7)) <| (F_sb_length r45 S v).bind fun x48 => (if p4 < x48 then (F_sb_setCharAt r45 p4 (J 120) S v).bind fun w49 => i83 S w49 p0 (p4 + (J 1)) else (F_sb_length r45 S v).bind fun x50 => some (.inr (x50, S, v)))
noncomputable def K_gc_printMeasurement_83 (N : Nat)  (n : Nat)  : shp → vl → Nat → Int32 → Option (Nat ⊕ (Int32 × shp × vl)) :=
  Nat.rec (motive := fun _ => shp → vl → Nat → Int32 → Option (Nat ⊕ (Int32 × shp × vl))) (fun _ _ _ _ => none) (fun _ i => Y_gc_printMeasurement_83 N  i ) n
theorem sY_gc_printMeasurement_83 (N : Nat) (S0 : shp) (v0 : vl)  (i83 : shp → vl → Nat → Int32 → Option (Nat ⊕ (Int32 × shp × vl)))   (j83 : ∀ (S : shp) (v : vl) (p0 : Nat) (p4 : Int32), SimK B_gc_printMeasurement 83 [some (.ref p0), none, none, none, some (.int p4)] [] S v (i83 S v p0 p4) (ρzi S0 v0)) (S : shp) (v : vl) (p0 : Nat) (p4 : Int32) : SimK B_gc_printMeasurement 83 [some (.ref p0), none, none, none, some (.int p4)] [] S v (Y_gc_printMeasurement_83 N  i83  S v p0 p4) (ρzi S0 v0) := by
  unfold Y_gc_printMeasurement_83
  refine sim_grd fun h44 => ?_
  refine sim_bind fun r45 h46 => ?_
  refine sim_seg [(.iload 4, 0, 0, 0), (.aload_n 0, 0, 0, 0), (.getfield 19, 5, 1, 0)] [r45] (q := 89) (L' := [some (.ref p0), none, none, none, some (.int p4)]) (st' := [.ref r45, .int p4]) (v1 := v) (by decide +kernel) rfl ⟨⟨h44, h46⟩, trivial⟩ ?_
  refine sim_grd fun h47 => ?_
  refine sc_ri (pc3 := 92) (cf_V (idx := 351) (ci := 7) [] m_sb_length (by decide) ⟨by decide, by decide⟩ (List.mem_of_getElem? (i := 1241) (by decide +kernel)) rfl (Nat.le_of_ble_eq_true rfl) h47 (by decide +kernel) (Nat.le_of_ble_eq_true rfl) rfl) (ok_sb_length r45 S v) rfl (fun x48 => ?_)
  refine sim_ge (o := 20) (tg := 112) (f := 95) (by decide +kernel) rfl rfl (fun _ => ?_) (fun _ => ?_)
  · refine sim_seg [(.aload_n 0, 0, 0, 0), (.getfield 19, 5, 1, 0), (.iload 4, 0, 0, 0), (.bipush 120, 0, 0, 120)] [r45] (q := 103) (L' := [some (.ref p0), none, none, none, some (.int p4)]) (st' := [.int (J 120), .int p4, .ref r45]) (v1 := v) (by decide +kernel) rfl ⟨⟨h44, h46⟩, trivial⟩ ?_
    refine sc_pv (pc3 := 106) (cf_V (idx := 356) (ci := 7) [.int p4, .int (J 120)] m_sb_setCharAt (by decide) ⟨by decide, by decide⟩ (List.mem_of_getElem? (i := 1581) (by decide +kernel)) rfl (Nat.le_of_ble_eq_true rfl) h47 (by decide +kernel) (Nat.le_of_ble_eq_true rfl) rfl) (ok_sb_setCharAt r45 p4 (J 120) S v) rfl (fun w49 => ?_)
    refine sim_seg [(.iinc 4 1, 0, 0, 1)] [] (q := 109) (L' := [some (.ref p0), none, none, none, some (.int (p4 + (J 1)))]) (st' := []) (v1 := w49) (by decide +kernel) rfl trivial ?_
    refine sim_seg [(.goto (-26), 0, 0, 0)] [] (q := 83) (L' := [some (.ref p0), none, none, none, some (.int (p4 + (J 1)))]) (st' := []) (v1 := w49) (by decide +kernel) rfl trivial ?_
    exact j83 S w49 p0 (p4 + (J 1))
  · refine sim_seg [(.aload_n 0, 0, 0, 0), (.getfield 19, 5, 1, 0)] [r45] (q := 116) (L' := [some (.ref p0), none, none, none, some (.int p4)]) (st' := [.ref r45]) (v1 := v) (by decide +kernel) rfl ⟨⟨h44, h46⟩, trivial⟩ ?_
    refine sc_ri (pc3 := 119) (cf_V (idx := 351) (ci := 7) [] m_sb_length (by decide) ⟨by decide, by decide⟩ (List.mem_of_getElem? (i := 1241) (by decide +kernel)) rfl (Nat.le_of_ble_eq_true rfl) h47 (by decide +kernel) (Nat.le_of_ble_eq_true rfl) rfl) (ok_sb_length r45 S v) rfl (fun x50 => ?_)
    exact sim_iret (by decide +kernel) rfl rfl rfl
theorem sR_gc_printMeasurement_83 (N : Nat) (S0 : shp) (v0 : vl)    (n : Nat) : ∀ (S : shp) (v : vl) (p0 : Nat) (p4 : Int32), SimK B_gc_printMeasurement 83 [some (.ref p0), none, none, none, some (.int p4)] [] S v (K_gc_printMeasurement_83 N  n  S v p0 p4) (ρzi S0 v0) := by
  induction n with
  | zero => intro S v p0 p4; exact sim_none
  | succ k ih => intro S v p0 p4; exact sY_gc_printMeasurement_83 N S0 v0  _   ih S v p0 p4
theorem sK_gc_printMeasurement_83 (N : Nat) (S0 : shp) (v0 : vl)   (n : Nat) (S : shp) (v : vl) (p0 : Nat) (p4 : Int32) : SimK B_gc_printMeasurement 83 [some (.ref p0), none, none, none, some (.int p4)] [] S v (K_gc_printMeasurement_83 N  n  S v p0 p4) (ρzi S0 v0) := sR_gc_printMeasurement_83 N S0 v0   n  S v p0 p4
noncomputable def K_gc_printMeasurement_32 (N : Nat)  (S : shp) (v : vl) (p0 : Nat) (p2 : Nat) (s0 : Nat) (s1 : Int32) : Option (Nat ⊕ (Int32 × shp × vl)) :=
  grd (kin S s0 = some (0, 7)) <| (F_sb_append s0 s1 S v).bind fun (q14, S15, w16) => oc2 q14 none fun r18 => grd (kin S15 p2 = some (0, 1)) <| grd (kin S15 r18 = some (0, 7)) <| (F_sb_append2 N r18 (gi w16 p2 3) S15 w16).bind fun (q21, S22, w23) => oc2 q21 none fun r25 => grd (kin S22 r25 = some (0, 7)) <| (F_sb_append r25 (J 58) S22 w23).bind fun (q27, S28, w29) => oc2 q27 none fun r31 => grd (kin S28 p0 = some (0, 5)) <| (gr S28 p0 1).bind fun r33 => grd (kin S28 r33 = some (0, 7)) <| (F_sb_length r33 S28 w29).bind fun x36 => (F_gc_digitsOf N (gi w29 p2 3) S28 w29).bind fun x37 => (F_ma_max (J 1) x37 S28 w29).bind fun x38 => (F_sb_append2 N r33 (gi w29 p2 4) S28 w29).bind fun (q39, S40, w41) => oc2 q39 none fun r43 => K_gc_printMeasurement_83 N  N S40 w41 p0 (x36 + x38)
theorem sK_gc_printMeasurement_32 (N : Nat) (S0 : shp) (v0 : vl)   (S : shp) (v : vl) (p0 : Nat) (p2 : Nat) (s0 : Nat) (s1 : Int32) : SimK B_gc_printMeasurement 32 [some (.ref p0), none, some (.ref p2), none, none] [.int s1, .ref s0] S v (K_gc_printMeasurement_32 N  S v p0 p2 s0 s1) (ρzi S0 v0) := by
  unfold K_gc_printMeasurement_32
  refine sim_grd fun h13 => ?_
  refine sc_gq (pc3 := 35) (cf_V (idx := 345) (ci := 7) [.int s1] m_sb_append (by decide) ⟨by decide, by decide⟩ (List.mem_of_getElem? (i := 1212) (by decide +kernel)) rfl (Nat.le_of_ble_eq_true rfl) h13 (by decide +kernel) (Nat.le_of_ble_eq_true rfl) rfl) (ok_sb_append s0 s1 S v) rfl (fun q14 S15 w16 h17 => ?_)
  refine sim_oc2 (fun _ => sim_none) (fun r18 _ => ?_)
  refine sim_grd fun h19 => ?_
  refine sim_seg [(.aload_n 2, 0, 0, 0), (.getfield 274, 1, 3, 0)] [] (q := 39) (L' := [some (.ref p0), none, some (.ref p2), none, none]) (st' := [.int (gi w16 p2 3), .ref r18]) (v1 := w16) (by decide +kernel) rfl ⟨h19, trivial⟩ ?_
  refine sim_grd fun h20 => ?_
  refine sc_gq (pc3 := 42) (cf_V (idx := 348) (ci := 7) [.int (gi w16 p2 3)] m_sb_append2 (by decide) ⟨by decide, by decide⟩ (List.mem_of_getElem? (i := 1240) (by decide +kernel)) rfl (Nat.le_of_ble_eq_true rfl) h20 (by decide +kernel) (Nat.le_of_ble_eq_true rfl) rfl) (ok_sb_append2 N r18 (gi w16 p2 3) S15 w16) rfl (fun q21 S22 w23 h24 => ?_)
  refine sim_oc2 (fun _ => sim_none) (fun r25 _ => ?_)
  refine sim_seg [(.bipush 58, 0, 0, 58)] [] (q := 44) (L' := [some (.ref p0), none, some (.ref p2), none, none]) (st' := [.int (J 58), .ref r25]) (v1 := w23) (by decide +kernel) rfl trivial ?_
  refine sim_grd fun h26 => ?_
  refine sc_gq (pc3 := 47) (cf_V (idx := 345) (ci := 7) [.int (J 58)] m_sb_append (by decide) ⟨by decide, by decide⟩ (List.mem_of_getElem? (i := 1212) (by decide +kernel)) rfl (Nat.le_of_ble_eq_true rfl) h26 (by decide +kernel) (Nat.le_of_ble_eq_true rfl) rfl) (ok_sb_append r25 (J 58) S22 w23) rfl (fun q27 S28 w29 h30 => ?_)
  refine sim_oc2 (fun _ => sim_none) (fun r31 _ => ?_)
  refine sim_grd fun h32 => ?_
  refine sim_bind fun r33 h34 => ?_
  refine sim_seg [(.pop, 0, 0, 0), (.aload_n 0, 0, 0, 0), (.getfield 19, 5, 1, 0)] [r33] (q := 52) (L' := [some (.ref p0), none, some (.ref p2), none, none]) (st' := [.ref r33]) (v1 := w29) (by decide +kernel) rfl ⟨⟨h32, h34⟩, trivial⟩ ?_
  refine sim_grd fun h35 => ?_
  refine sc_ri (pc3 := 55) (cf_V (idx := 351) (ci := 7) [] m_sb_length (by decide) ⟨by decide, by decide⟩ (List.mem_of_getElem? (i := 1241) (by decide +kernel)) rfl (Nat.le_of_ble_eq_true rfl) h35 (by decide +kernel) (Nat.le_of_ble_eq_true rfl) rfl) (ok_sb_length r33 S28 w29) rfl (fun x36 => ?_)
  refine sim_seg [(.iconst 1, 0, 0, 1), (.aload_n 2, 0, 0, 0), (.getfield 274, 1, 3, 0)] [] (q := 60) (L' := [some (.ref p0), none, some (.ref p2), none, none]) (st' := [.int (gi w29 p2 3), .int (J 1), .int x36]) (v1 := w29) (by decide +kernel) rfl ⟨(h30.2.2.2.2 _ _ (h24.2.2.2.2 _ _ h19)), trivial⟩ ?_
  refine sc_ri (pc3 := 63) (cf_S (idx := 255) [.int (gi w29 p2 3)] m_gc_digitsOf ⟨by decide, by decide⟩ (List.mem_of_getElem? (i := 851) (by decide +kernel)) rfl (Nat.le_of_ble_eq_true rfl) (by decide +kernel) (Nat.le_of_ble_eq_true rfl) rfl) (ok_gc_digitsOf N (gi w29 p2 3) S28 w29) rfl (fun x37 => ?_)
  refine sc_ri (pc3 := 66) (cf_S (idx := 226) [.int (J 1), .int x37] m_ma_max ⟨by decide, by decide⟩ (List.mem_of_getElem? (i := 695) (by decide +kernel)) rfl (Nat.le_of_ble_eq_true rfl) (by decide +kernel) (Nat.le_of_ble_eq_true rfl) rfl) (ok_ma_max (J 1) x37 S28 w29) rfl (fun x38 => ?_)
  refine sim_seg [(.iadd, 0, 0, 0), (.istore_n 3, 0, 0, 0)] [] (q := 68) (L' := [some (.ref p0), none, some (.ref p2), some (.int (x36 + x38)), none]) (st' := []) (v1 := w29) (by decide +kernel) rfl trivial ?_
  refine sim_seg [(.aload_n 0, 0, 0, 0), (.getfield 19, 5, 1, 0), (.aload_n 2, 0, 0, 0), (.getfield 353, 1, 4, 0)] [r33] (q := 76) (L' := [some (.ref p0), none, some (.ref p2), some (.int (x36 + x38)), none]) (st' := [.int (gi w29 p2 4), .ref r33]) (v1 := w29) (by decide +kernel) rfl ⟨⟨h32, h34⟩, (h30.2.2.2.2 _ _ (h24.2.2.2.2 _ _ h19)), trivial⟩ ?_
  refine sc_gq (pc3 := 79) (cf_V (idx := 348) (ci := 7) [.int (gi w29 p2 4)] m_sb_append2 (by decide) ⟨by decide, by decide⟩ (List.mem_of_getElem? (i := 1240) (by decide +kernel)) rfl (Nat.le_of_ble_eq_true rfl) h35 (by decide +kernel) (Nat.le_of_ble_eq_true rfl) rfl) (ok_sb_append2 N r33 (gi w29 p2 4) S28 w29) rfl (fun q39 S40 w41 h42 => ?_)
  refine sim_oc2 (fun _ => sim_none) (fun r43 _ => ?_)
  refine sim_seg [(.pop, 0, 0, 0), (.iload_n 3, 0, 0, 0), (.istore 4, 0, 0, 0)] [] (q := 83) (L' := [some (.ref p0), none, some (.ref p2), some (.int (x36 + x38)), some (.int (x36 + x38))]) (st' := []) (v1 := w41) (by decide +kernel) rfl trivial ?_
  exact sim_wk (L0 := [some (.ref p0), none, none, none, some (.int (x36 + x38))]) ⟨rfl, rfl, trivial⟩ (sK_gc_printMeasurement_83 N S0 v0 N S40 w41 p0 (x36 + x38))
noncomputable def F_gc_printMeasurement (N : Nat) (a0 : Nat) (b1 : Int32) (S : shp) (v : vl) : Option (Nat ⊕ (Int32 × shp × vl)) :=
  grd (kin S a0 = some (0, 5)) <| bx (F_gc_found a0 b1 S v) (fun k0 => some (.inl k0)) fun q2 => oc2 q2 none fun r3 => (gr S a0 1).bind fun r4 => grd (kin S r4 = some (0, 7)) <| (F_sb_setLength N r4 (J 0) S v).bind fun (S7, w8) => (gr S7 a0 1).bind fun r10 => grd (kin S7 r3 = some (0, 1)) <| (if (gi w8 r3 0) = (J 0) then K_gc_printMeasurement_32 N  S7 w8 a0 r3 r10 (J 103) else K_gc_printMeasurement_32 N  S7 w8 a0 r3 r10 (J 112))
theorem ok_gc_printMeasurement (N : Nat) (a0 : Nat) (b1 : Int32) (S : shp) (v : vl) : SimK B_gc_printMeasurement 0 (entB (bN B_gc_printMeasurement) [.ref a0, .int b1]) [] S v (F_gc_printMeasurement N a0 b1 S v) (ρzi S v) := by
  show SimK B_gc_printMeasurement 0 [some (.ref a0), some (.int b1), none, none, none] [] S v (F_gc_printMeasurement N a0 b1 S v) _
  unfold F_gc_printMeasurement
  refine sim_seg [(.aload_n 0, 0, 0, 0), (.iload_n 1, 0, 0, 0)] [] (q := 2) (L' := [some (.ref a0), some (.int b1), none, none, none]) (st' := [.int b1, .ref a0]) (v1 := v) (by decide +kernel) rfl trivial ?_
  refine sim_grd fun h1 => ?_
  refine sc_xq (pc3 := 5) (cf_V (idx := 166) (ci := 5) [.int b1] m_gc_found (by decide) ⟨by decide, by decide⟩ (List.mem_of_getElem? (i := 1316) (by decide +kernel)) rfl (Nat.le_of_ble_eq_true rfl) h1 (by decide +kernel) (Nat.le_of_ble_eq_true rfl) rfl) (ok_gc_found a0 b1 S v) rfl rfl (fun k0 b hb => by cases hb; rfl) (fun q2 => ?_)
  refine sim_oc2 (fun _ => sim_none) (fun r3 _ => ?_)
  refine sim_seg [(.astore_n 2, 0, 0, 0)] [] (q := 6) (L' := [some (.ref a0), some (.int b1), some (.ref r3), none, none]) (st' := []) (v1 := v) (by decide +kernel) rfl trivial ?_
  refine sim_bind fun r4 h5 => ?_
  refine sim_seg [(.aload_n 0, 0, 0, 0), (.getfield 19, 5, 1, 0), (.iconst 0, 0, 0, 0)] [r4] (q := 11) (L' := [some (.ref a0), some (.int b1), some (.ref r3), none, none]) (st' := [.int (J 0), .ref r4]) (v1 := v) (by decide +kernel) rfl ⟨⟨h1, h5⟩, trivial⟩ ?_
  refine sim_grd fun h6 => ?_
  refine sc_gv (pc3 := 14) (cf_V (idx := 342) (ci := 7) [.int (J 0)] m_sb_setLength (by decide) ⟨by decide, by decide⟩ (List.mem_of_getElem? (i := 895) (by decide +kernel)) rfl (Nat.le_of_ble_eq_true rfl) h6 (by decide +kernel) (Nat.le_of_ble_eq_true rfl) rfl) (ok_sb_setLength N r4 (J 0) S v) rfl (fun S7 w8 h9 => ?_)
  refine sim_bind fun r10 h11 => ?_
  refine sim_grd fun h12 => ?_
  refine sim_seg [(.aload_n 0, 0, 0, 0), (.getfield 19, 5, 1, 0), (.aload_n 2, 0, 0, 0), (.getfield 268, 1, 0, 0)] [r10] (q := 22) (L' := [some (.ref a0), some (.int b1), some (.ref r3), none, none]) (st' := [.int (gi w8 r3 0), .ref r10]) (v1 := w8) (by decide +kernel) rfl ⟨⟨(h9.2.2.2.2 _ _ h1), h11⟩, h12, trivial⟩ ?_
  refine sim_eq0 (o := 8) (tg := 30) (f := 25) (by decide +kernel) rfl rfl (fun _ => ?_) (fun _ => ?_)
  · refine sim_seg [(.bipush 103, 0, 0, 103)] [] (q := 32) (L' := [some (.ref a0), some (.int b1), some (.ref r3), none, none]) (st' := [.int (J 103), .ref r10]) (v1 := w8) (by decide +kernel) rfl trivial ?_
    exact sim_wk (L0 := [some (.ref a0), none, some (.ref r3), none, none]) ⟨rfl, rfl, trivial⟩ (sK_gc_printMeasurement_32 N S v S7 w8 a0 r3 r10 (J 103))
  · refine sim_seg [(.bipush 112, 0, 0, 112), (.goto 5, 0, 0, 0)] [] (q := 32) (L' := [some (.ref a0), some (.int b1), some (.ref r3), none, none]) (st' := [.int (J 112), .ref r10]) (v1 := w8) (by decide +kernel) rfl trivial ?_
    exact sim_wk (L0 := [some (.ref a0), none, some (.ref r3), none, none]) ⟨rfl, rfl, trivial⟩ (sK_gc_printMeasurement_32 N S v S7 w8 a0 r3 r10 (J 112))
def B_gc_restoreState : bd := (⟨"GateCounter", "restoreState", "()I"⟩, prog_1_method_66_code, 1, (some .int), [], 5, 6)
theorem m_gc_restoreState : mV B_gc_restoreState 5 0 := ⟨⟨⟨by decide +kernel, Or.inl rfl⟩, rfl, (List.mem_of_getElem? (i := 1594) (by decide +kernel)), by decide +kernel, (List.mem_of_getElem? (i := 95) (by decide +kernel)), ⟨by decide, by decide⟩, by decide⟩, rfl, (by unfold nar; decide +kernel), (List.mem_of_getElem? (i := 1592) (by decide +kernel)), rfl, (List.mem_of_getElem? (i := 1593) (by decide +kernel))⟩
noncomputable def F_gc_restoreState (N : Nat) (a0 : Nat) (S : shp) (v : vl) : Option (Nat ⊕ (Int32 × shp × vl)) :=
  grd (kin S a0 = some (0, 5)) <| (if (gi v a0 9) = (J 0) then some (.inl 3) else (gr S a0 5).bind fun r2 => (gr S a0 8).bind fun r4 => grd (kin S r2 = some (0, 4)) <| (F_st_copyFrom N r2 r4 S v).bind fun (S7, w8) => lt (si w8 a0 12 (J 0)) fun w10 => (gr S7 a0 5).bind fun r11 => grd (kin S7 r11 = some (0, 4)) <| some (.inr ((gi w10 r11 0), S7, w10)))
theorem ok_gc_restoreState (N : Nat) (a0 : Nat) (S : shp) (v : vl) : SimK B_gc_restoreState 0 (entB (bN B_gc_restoreState) [.ref a0]) [] S v (F_gc_restoreState N a0 S v) (ρzi S v) := by
  show SimK B_gc_restoreState 0 [some (.ref a0)] [] S v (F_gc_restoreState N a0 S v) _
  unfold F_gc_restoreState
  refine sim_grd fun h1 => ?_
  refine sim_seg [(.aload_n 0, 0, 0, 0), (.getfield 65, 5, 9, 0)] [] (q := 4) (L' := [some (.ref a0)]) (st' := [.int (gi v a0 9)]) (v1 := v) (by decide +kernel) rfl ⟨h1, trivial⟩ ?_
  refine sim_ne0 (o := 11) (tg := 15) (f := 7) (by decide +kernel) rfl rfl (fun _ => ?_) (fun _ => ?_)
  · exact sim_throw thr3 rfl rfl (by decide) (by decide +kernel) (by decide +kernel) (by decide +kernel) (by decide +kernel) (Nat.le_of_ble_eq_true rfl) rfl
  · refine sim_bind fun r2 h3 => ?_
    refine sim_bind fun r4 h5 => ?_
    refine sim_seg [(.aload_n 0, 0, 0, 0), (.getfield 26, 5, 5, 0), (.aload_n 0, 0, 0, 0), (.getfield 36, 5, 8, 0)] [r2, r4] (q := 23) (L' := [some (.ref a0)]) (st' := [.ref r4, .ref r2]) (v1 := v) (by decide +kernel) rfl ⟨⟨h1, h3⟩, ⟨h1, h5⟩, trivial⟩ ?_
    refine sim_grd fun h6 => ?_
    refine sc_gv (pc3 := 26) (cf_V (idx := 58) (ci := 4) [.ref r4] m_st_copyFrom (by decide) ⟨by decide, by decide⟩ (List.mem_of_getElem? (i := 570) (by decide +kernel)) rfl (Nat.le_of_ble_eq_true rfl) h6 (by decide +kernel) (Nat.le_of_ble_eq_true rfl) rfl) (ok_st_copyFrom N r2 r4 S v) rfl (fun S7 w8 h9 => ?_)
    refine sim_seg [(.aload_n 0, 0, 0, 0), (.iconst 0, 0, 0, 0), (.putfield 62, 5, 12, 0), (.aload_n 0, 0, 0, 0)] [] (q := 32) (L' := [some (.ref a0)]) (st' := [.ref a0]) (v1 := (si w8 a0 12 (J 0))) (by decide +kernel) rfl ⟨(h9.2.2.2.2 _ _ h1), trivial⟩ ?_
    refine sim_lt (x := (si w8 a0 12 (J 0))) ?_
    generalize (si w8 a0 12 (J 0)) = w10
    refine sim_bind fun r11 h12 => ?_
    refine sim_grd fun h13 => ?_
    refine sim_seg [(.getfield 26, 5, 5, 0), (.getfield 84, 4, 0, 0)] [r11] (q := 38) (L' := [some (.ref a0)]) (st' := [.int (gi w10 r11 0)]) (v1 := w10) (by decide +kernel) rfl ⟨⟨(h9.2.2.2.2 _ _ h1), h12⟩, h13, trivial⟩ ?_
    exact sim_iret (by decide +kernel) rfl rfl rfl
def B_gm_begins : bd := (⟨"GateCounterModel", "begins", "()V"⟩, prog_8_method_7_code, 2, none, [], 6, 0)
theorem m_gm_begins : mV B_gm_begins 6 0 := ⟨⟨⟨by decide +kernel, Or.inl rfl⟩, rfl, (List.mem_of_getElem? (i := 1604) (by decide +kernel)), by decide +kernel, (List.mem_of_getElem? (i := 104) (by decide +kernel)), ⟨by decide, by decide⟩, by decide⟩, rfl, (by unfold nar; decide +kernel), (List.mem_of_getElem? (i := 1603) (by decide +kernel)), rfl, (List.mem_of_getElem? (i := 32) (by decide +kernel))⟩
noncomputable def Y_gm_begins_2 (N : Nat)  (i2 : vl → Nat → Int32 → Option vl) (S : shp) (v : vl) (p0 : Nat) (p1 : Int32) : Option vl :=
  (if p1 < (J 199) then grd (kin S p0 = some (0, 6)) <| (gr S p0 0).bind fun r2 => grd (kin S r2 = some (1, 199)) <| grd (vp_in p1 (alen S r2)) <| lt (si v r2 (Int32.toNatClampNeg p1) (J 0)) fun w6 => i2 w6 p0 (p1 + (J 1)) else grd (kin S p0 = some (0, 6)) <| (gr S p0 0).bind fun r8 => grd (kin S r8 = some (1, 199)) <| lt (si v r8 4 (J 1)) fun w11 => lt (si w11 r8 5 (J 10)) fun w12 => lt (si w12 r8 6 (J 1)) fun w13 => lt (si w13 r8 13 (J (-1))) fun w14 => some (w14))
noncomputable def K_gm_begins_2 (N : Nat)  (n : Nat) (S : shp) : vl → Nat → Int32 → Option vl :=
  Nat.rec (motive := fun _ => vl → Nat → Int32 → Option vl) (fun _ _ _ => none) (fun _ i => Y_gm_begins_2 N  i S) n
theorem sY_gm_begins_2 (N : Nat)  (i2 : vl → Nat → Int32 → Option vl) (S : shp)  (j2 : ∀ (v : vl) (p0 : Nat) (p1 : Int32), SimK B_gm_begins 2 [some (.ref p0), some (.int p1)] [] S v (i2 v p0 p1) (ρpv S)) (v : vl) (p0 : Nat) (p1 : Int32) : SimK B_gm_begins 2 [some (.ref p0), some (.int p1)] [] S v (Y_gm_begins_2 N  i2 S v p0 p1) (ρpv S) := by
  unfold Y_gm_begins_2
  refine sim_seg [(.iload_n 1, 0, 0, 0), (.sipush 199, 0, 0, 199)] [] (q := 6) (L' := [some (.ref p0), some (.int p1)]) (st' := [.int (J 199), .int p1]) (v1 := v) (by decide +kernel) rfl trivial ?_
  refine sim_ge (o := 16) (tg := 22) (f := 9) (by decide +kernel) rfl rfl (fun _ => ?_) (fun _ => ?_)
  · refine sim_grd fun h1 => ?_
    refine sim_bind fun r2 h3 => ?_
    refine sim_grd fun h4 => ?_
    refine sim_grd fun h5 => ?_
    refine sim_seg [(.aload_n 0, 0, 0, 0), (.getfield 7, 6, 0, 0), (.iload_n 1, 0, 0, 0), (.iconst 0, 0, 0, 0), (.iastore, 0, 0, 0), (.iinc 1 1, 0, 0, 1)] [r2] (q := 19) (L' := [some (.ref p0), some (.int (p1 + (J 1)))]) (st' := []) (v1 := (si v r2 (Int32.toNatClampNeg p1) (J 0))) (by decide +kernel) rfl ⟨⟨h1, h3⟩, ⟨(kin_alen h4), h5⟩, trivial⟩ ?_
    refine sim_lt (x := (si v r2 (Int32.toNatClampNeg p1) (J 0))) ?_
    generalize (si v r2 (Int32.toNatClampNeg p1) (J 0)) = w6
    refine sim_seg [(.goto (-17), 0, 0, 0)] [] (q := 2) (L' := [some (.ref p0), some (.int (p1 + (J 1)))]) (st' := []) (v1 := w6) (by decide +kernel) rfl trivial ?_
    exact j2 w6 p0 (p1 + (J 1))
  · refine sim_grd fun h7 => ?_
    refine sim_bind fun r8 h9 => ?_
    refine sim_grd fun h10 => ?_
    refine sim_seg [(.aload_n 0, 0, 0, 0), (.getfield 7, 6, 0, 0), (.iconst 4, 0, 0, 4), (.iconst 1, 0, 0, 1), (.iastore, 0, 0, 0), (.aload_n 0, 0, 0, 0)] [r8] (q := 30) (L' := [some (.ref p0), some (.int p1)]) (st' := [.ref p0]) (v1 := (si v r8 4 (J 1))) (by decide +kernel) rfl ⟨⟨h7, h9⟩, ⟨(kin_alen h10), (vin_J h10 (by unfold vp_in; decide))⟩, trivial⟩ ?_
    refine sim_lt (x := (si v r8 4 (J 1))) ?_
    generalize (si v r8 4 (J 1)) = w11
    refine sim_seg [(.getfield 7, 6, 0, 0), (.iconst 5, 0, 0, 5), (.bipush 10, 0, 0, 10), (.iastore, 0, 0, 0), (.aload_n 0, 0, 0, 0)] [r8] (q := 38) (L' := [some (.ref p0), some (.int p1)]) (st' := [.ref p0]) (v1 := (si w11 r8 5 (J 10))) (by decide +kernel) rfl ⟨⟨h7, h9⟩, ⟨(kin_alen h10), (vin_J h10 (by unfold vp_in; decide))⟩, trivial⟩ ?_
    refine sim_lt (x := (si w11 r8 5 (J 10))) ?_
    generalize (si w11 r8 5 (J 10)) = w12
    refine sim_seg [(.getfield 7, 6, 0, 0), (.bipush 6, 0, 0, 6), (.iconst 1, 0, 0, 1), (.iastore, 0, 0, 0), (.aload_n 0, 0, 0, 0)] [r8] (q := 46) (L' := [some (.ref p0), some (.int p1)]) (st' := [.ref p0]) (v1 := (si w12 r8 6 (J 1))) (by decide +kernel) rfl ⟨⟨h7, h9⟩, ⟨(kin_alen h10), (vin_J h10 (by unfold vp_in; decide))⟩, trivial⟩ ?_
    refine sim_lt (x := (si w12 r8 6 (J 1))) ?_
    generalize (si w12 r8 6 (J 1)) = w13
    refine sim_seg [(.getfield 7, 6, 0, 0), (.bipush 13, 0, 0, 13), (.iconst (-1), 0, 0, (-1)), (.iastore, 0, 0, 0)] [r8] (q := 53) (L' := [some (.ref p0), some (.int p1)]) (st' := []) (v1 := (si w13 r8 13 (J (-1)))) (by decide +kernel) rfl ⟨⟨h7, h9⟩, ⟨(kin_alen h10), (vin_J h10 (by unfold vp_in; decide))⟩, trivial⟩ ?_
    refine sim_lt (x := (si w13 r8 13 (J (-1)))) ?_
    generalize (si w13 r8 13 (J (-1))) = w14
    exact sim_vret (by decide +kernel) rfl rfl
theorem sR_gm_begins_2 (N : Nat)  (S : shp)  (n : Nat) : ∀ (v : vl) (p0 : Nat) (p1 : Int32), SimK B_gm_begins 2 [some (.ref p0), some (.int p1)] [] S v (K_gm_begins_2 N  n S v p0 p1) (ρpv S) := by
  induction n with
  | zero => intro v p0 p1; exact sim_none
  | succ k ih => intro v p0 p1; exact sY_gm_begins_2 N   _ S  ih v p0 p1
theorem sK_gm_begins_2 (N : Nat)  (n : Nat) (S : shp) (v : vl) (p0 : Nat) (p1 : Int32) : SimK B_gm_begins 2 [some (.ref p0), some (.int p1)] [] S v (K_gm_begins_2 N  n S v p0 p1) (ρpv S) := sR_gm_begins_2 N   S  n  v p0 p1
noncomputable def F_gm_begins (N : Nat) (a0 : Nat) (S : shp) (v : vl) : Option vl :=
  K_gm_begins_2 N  N S v a0 (J 0)
theorem ok_gm_begins (N : Nat) (a0 : Nat) (S : shp) (v : vl) : SimK B_gm_begins 0 (entB (bN B_gm_begins) [.ref a0]) [] S v (F_gm_begins N a0 S v) (ρpv S) := by
  show SimK B_gm_begins 0 [some (.ref a0), none] [] S v (F_gm_begins N a0 S v) _
  unfold F_gm_begins
  refine sim_seg [(.iconst 0, 0, 0, 0), (.istore_n 1, 0, 0, 0)] [] (q := 2) (L' := [some (.ref a0), some (.int (J 0))]) (st' := []) (v1 := v) (by decide +kernel) rfl trivial ?_
  exact sK_gm_begins_2 N N S v a0 (J 0)
