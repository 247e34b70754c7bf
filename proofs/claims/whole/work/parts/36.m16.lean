/-! Methods: lw_addSegment, lw_byGate, lw_byPeriod, lw_calibrate, lw_clocksIn, lw_clocksTo, lw_correctionFor, lw_count, lw_driftIn, lw_drop, lw_dropSegment, lw_edgesIn, lw_gateFor, lw_gateNear, lw_longestSilence, lw_measurement, lw_outputsIn, lw_periodsFor, lw_printMeasurement, lw_restoreState, lw_run, lw_runTo, lw_segment, lw_set, lw_setPrescale, lw_setting, lw_state, lw_timeOfClock, lw_timeOfEdge, lw_trueRate, lw_undo, lw_valueWith, lw_wobble. -/
def B_lw_addSegment : bd := (⟨"GateCounterLaw", "addSegment", "(LGateCounter;II[J)I"⟩, method_30_code, 5, (some .int), [(0, 10, 13, 13), (0, 10, 17, 84)], 15, 9)
theorem m_lw_addSegment : mX B_lw_addSegment 4 := ⟨⟨⟨by decide +kernel, Or.inr (by decide +kernel)⟩, rfl, (List.mem_of_getElem? (i := 1528) (by decide +kernel)), by decide +kernel, (List.mem_of_getElem? (i := 94) (by decide +kernel)), ⟨by decide, by decide⟩, by decide⟩, List.cons_ne_nil _ _, (by unfold nar; decide +kernel), (List.mem_of_getElem? (i := 1527) (by decide +kernel))⟩
noncomputable def F_lw_addSegment (N : Nat) (a0 : Nat) (b1 : Int32) (b2 : Int32) (a3 : Nat) (S : shp) (v : vl) : Option (Int32 × shp × vl) :=
  grd (kin S a0 = some (0, 5)) <| bx (F_gc_addSegment N a0 b1 b2 S v) (fun k0 => if k0 = 0 then lt (skip S 6) fun S9 => some (((J 1), S9, v)) else if k0 = 2 then lt (skip S 6) fun S11 => some (((J 2), S11, v)) else none) fun (x2, S3, w4) => grd (kin S3 a3 = some (3, alen S3 a3)) <| grd (vp_in (J 0) (alen S3 a3)) <| lt (sl w4 a3 0 (Int32.toInt64 x2)) fun w8 => some (((J 0), S3, w8))
theorem ok_lw_addSegment (N : Nat) (a0 : Nat) (b1 : Int32) (b2 : Int32) (a3 : Nat) (S : shp) (v : vl) : SimK B_lw_addSegment 0 (entB (bN B_lw_addSegment) [.ref a0, .int b1, .int b2, .ref a3]) [] S v (F_lw_addSegment N a0 b1 b2 a3 S v) (ρgi) := by
  show SimK B_lw_addSegment 0 [some (.ref a0), some (.int b1), some (.int b2), some (.ref a3), none] [] S v (F_lw_addSegment N a0 b1 b2 a3 S v) _
  unfold F_lw_addSegment
  refine sim_seg [(.aload_n 3, 0, 0, 0), (.iconst 0, 0, 0, 0), (.aload_n 0, 0, 0, 0), (.iload_n 1, 0, 0, 0), (.iload_n 2, 0, 0, 0)] [] (q := 5) (L' := [some (.ref a0), some (.int b1), some (.int b2), some (.ref a3), none]) (st' := [.int b2, .int b1, .ref a0, .int (J 0), .ref a3]) (v1 := v) (by decide +kernel) rfl trivial ?_
  refine sim_grd fun h1 => ?_
  refine sim_catch2 (kA := 0) (kB := 2) (x := ⟨0, 10, 13, 13⟩) (y := ⟨0, 10, 17, 84⟩) (ok_gc_addSegment N a0 b1 b2 S v) (cf_V (idx := 98) (ci := 5) [.int b1, .int b2] m_gc_addSegment (by decide) ⟨by decide, by decide⟩ (List.mem_of_getElem? (i := 1529) (by decide +kernel)) rfl (Nat.le_of_ble_eq_true rfl) h1 (by decide +kernel) (Nat.le_of_ble_eq_true rfl) rfl) (fun _ => rfl) rfl ⟨by decide, by decide⟩ ⟨by decide, by decide⟩ (List.mem_of_getElem? (i := 1267) (by decide +kernel)) (List.mem_of_getElem? (i := 1469) (by decide +kernel)) (by decide) ?_ ?_ (fun b _ => ?_)
  · intro r10
    refine sim_lt (x := skip S 6) ?_
    generalize skip S 6 = S9
    show SimK B_lw_addSegment 13 [some (.ref a0), some (.int b1), some (.int b2), some (.ref a3), none] [.ref r10] S9 v _ _
    refine sim_seg [(.astore 4, 0, 0, 0)] [] (q := 15) (L' := [some (.ref a0), some (.int b1), some (.int b2), some (.ref a3), some (.ref r10)]) (st' := []) (v1 := v) (by decide +kernel) rfl trivial ?_
    refine sim_seg [(.iconst 1, 0, 0, 1)] [] (q := 16) (L' := [some (.ref a0), some (.int b1), some (.int b2), some (.ref a3), some (.ref r10)]) (st' := [.int (J 1)]) (v1 := v) (by decide +kernel) rfl trivial ?_
    exact sim_iret (by decide +kernel) rfl rfl rfl
  · intro r12
    refine sim_lt (x := skip S 6) ?_
    generalize skip S 6 = S11
    show SimK B_lw_addSegment 17 [some (.ref a0), some (.int b1), some (.int b2), some (.ref a3), none] [.ref r12] S11 v _ _
    refine sim_seg [(.astore 4, 0, 0, 0)] [] (q := 19) (L' := [some (.ref a0), some (.int b1), some (.int b2), some (.ref a3), some (.ref r12)]) (st' := []) (v1 := v) (by decide +kernel) rfl trivial ?_
    refine sim_seg [(.iconst 2, 0, 0, 2)] [] (q := 20) (L' := [some (.ref a0), some (.int b1), some (.int b2), some (.ref a3), some (.ref r12)]) (st' := [.int (J 2)]) (v1 := v) (by decide +kernel) rfl trivial ?_
    exact sim_iret (by decide +kernel) rfl rfl rfl
  obtain ⟨x2, S3, w4⟩ := b
  refine ⟨some (.int x2), rfl, ?_⟩
  show SimK B_lw_addSegment 8 [some (.ref a0), some (.int b1), some (.int b2), some (.ref a3), none] [.int x2, .int (J 0), .ref a3] S3 w4 _ _
  refine sim_grd fun h6 => ?_
  refine sim_grd fun h7 => ?_
  refine sim_seg [(.i2l, 0, 0, 0), (.lastore, 0, 0, 0), (.goto 11, 0, 0, 0), (.iconst 0, 0, 0, 0)] [] (q := 22) (L' := [some (.ref a0), some (.int b1), some (.int b2), some (.ref a3), none]) (st' := [.int (J 0)]) (v1 := (sl w4 a3 0 (Int32.toInt64 x2))) (by decide +kernel) rfl ⟨⟨h6, h7⟩, trivial⟩ ?_
  refine sim_lt (x := (sl w4 a3 0 (Int32.toInt64 x2))) ?_
  generalize (sl w4 a3 0 (Int32.toInt64 x2)) = w8
  exact sim_iret (by decide +kernel) rfl rfl rfl
def B_lw_byGate : bd := (⟨"GateCounterLaw", "byGate", "(LGateCounter;I[J)I"⟩, method_16_code, 4, (some .int), [(0, 9, 12, 13)], 15, 9)
theorem m_lw_byGate : mX B_lw_byGate 3 := ⟨⟨⟨by decide +kernel, Or.inr (by decide +kernel)⟩, rfl, (List.mem_of_getElem? (i := 1397) (by decide +kernel)), by decide +kernel, (List.mem_of_getElem? (i := 94) (by decide +kernel)), ⟨by decide, by decide⟩, by decide⟩, List.cons_ne_nil _ _, (by unfold nar; decide +kernel), (List.mem_of_getElem? (i := 1396) (by decide +kernel))⟩
noncomputable def F_lw_byGate (N : Nat) (a0 : Nat) (b1 : Int32) (a2 : Nat) (S : shp) (v : vl) : Option (Int32 × shp × vl) :=
  grd (kin S a0 = some (0, 5)) <| bx (F_gc_byGate N a0 b1 S v) (fun k0 => if k0 = 0 then lt (skip S 6) fun S9 => some (((J 1), S9, v)) else none) fun (x2, S3, w4) => grd (kin S3 a2 = some (3, alen S3 a2)) <| grd (vp_in (J 0) (alen S3 a2)) <| lt (sl w4 a2 0 (Int32.toInt64 x2)) fun w8 => some (((J 0), S3, w8))
theorem ok_lw_byGate (N : Nat) (a0 : Nat) (b1 : Int32) (a2 : Nat) (S : shp) (v : vl) : SimK B_lw_byGate 0 (entB (bN B_lw_byGate) [.ref a0, .int b1, .ref a2]) [] S v (F_lw_byGate N a0 b1 a2 S v) (ρgi) := by
  show SimK B_lw_byGate 0 [some (.ref a0), some (.int b1), some (.ref a2), none] [] S v (F_lw_byGate N a0 b1 a2 S v) _
  unfold F_lw_byGate
  refine sim_seg [(.aload_n 2, 0, 0, 0), (.iconst 0, 0, 0, 0), (.aload_n 0, 0, 0, 0), (.iload_n 1, 0, 0, 0)] [] (q := 4) (L' := [some (.ref a0), some (.int b1), some (.ref a2), none]) (st' := [.int b1, .ref a0, .int (J 0), .ref a2]) (v1 := v) (by decide +kernel) rfl trivial ?_
  refine sim_grd fun h1 => ?_
  refine sim_catch1 (kA := 0) (x := ⟨0, 9, 12, 13⟩) (ok_gc_byGate N a0 b1 S v) (cf_V (idx := 54) (ci := 5) [.int b1] m_gc_byGate (by decide) ⟨by decide, by decide⟩ (List.mem_of_getElem? (i := 1398) (by decide +kernel)) rfl (Nat.le_of_ble_eq_true rfl) h1 (by decide +kernel) (Nat.le_of_ble_eq_true rfl) rfl) (fun _ => rfl) rfl (by decide) (by decide) (List.mem_of_getElem? (i := 1267) (by decide +kernel)) (by decide) ?_ (fun b _ => ?_)
  · intro r10
    refine sim_lt (x := skip S 6) ?_
    generalize skip S 6 = S9
    show SimK B_lw_byGate 12 [some (.ref a0), some (.int b1), some (.ref a2), none] [.ref r10] S9 v _ _
    refine sim_seg [(.astore_n 3, 0, 0, 0)] [] (q := 13) (L' := [some (.ref a0), some (.int b1), some (.ref a2), some (.ref r10)]) (st' := []) (v1 := v) (by decide +kernel) rfl trivial ?_
    refine sim_seg [(.iconst 1, 0, 0, 1)] [] (q := 14) (L' := [some (.ref a0), some (.int b1), some (.ref a2), some (.ref r10)]) (st' := [.int (J 1)]) (v1 := v) (by decide +kernel) rfl trivial ?_
    exact sim_iret (by decide +kernel) rfl rfl rfl
  obtain ⟨x2, S3, w4⟩ := b
  refine ⟨some (.int x2), rfl, ?_⟩
  show SimK B_lw_byGate 7 [some (.ref a0), some (.int b1), some (.ref a2), none] [.int x2, .int (J 0), .ref a2] S3 w4 _ _
  refine sim_grd fun h6 => ?_
  refine sim_grd fun h7 => ?_
  refine sim_seg [(.i2l, 0, 0, 0), (.lastore, 0, 0, 0), (.goto 6, 0, 0, 0), (.iconst 0, 0, 0, 0)] [] (q := 16) (L' := [some (.ref a0), some (.int b1), some (.ref a2), none]) (st' := [.int (J 0)]) (v1 := (sl w4 a2 0 (Int32.toInt64 x2))) (by decide +kernel) rfl ⟨⟨h6, h7⟩, trivial⟩ ?_
  refine sim_lt (x := (sl w4 a2 0 (Int32.toInt64 x2))) ?_
  generalize (sl w4 a2 0 (Int32.toInt64 x2)) = w8
  exact sim_iret (by decide +kernel) rfl rfl rfl
def B_lw_byPeriod : bd := (⟨"GateCounterLaw", "byPeriod", "(LGateCounter;I[J)I"⟩, method_17_code, 4, (some .int), [(0, 9, 12, 13)], 15, 9)
theorem m_lw_byPeriod : mX B_lw_byPeriod 3 := ⟨⟨⟨by decide +kernel, Or.inr (by decide +kernel)⟩, rfl, (List.mem_of_getElem? (i := 1404) (by decide +kernel)), by decide +kernel, (List.mem_of_getElem? (i := 94) (by decide +kernel)), ⟨by decide, by decide⟩, by decide⟩, List.cons_ne_nil _ _, (by unfold nar; decide +kernel), (List.mem_of_getElem? (i := 1403) (by decide +kernel))⟩
noncomputable def F_lw_byPeriod (N : Nat) (a0 : Nat) (b1 : Int32) (a2 : Nat) (S : shp) (v : vl) : Option (Int32 × shp × vl) :=
  grd (kin S a0 = some (0, 5)) <| bx (F_gc_byPeriod N a0 b1 S v) (fun k0 => if k0 = 0 then lt (skip S 6) fun S9 => some (((J 1), S9, v)) else none) fun (x2, S3, w4) => grd (kin S3 a2 = some (3, alen S3 a2)) <| grd (vp_in (J 0) (alen S3 a2)) <| lt (sl w4 a2 0 (Int32.toInt64 x2)) fun w8 => some (((J 0), S3, w8))
theorem ok_lw_byPeriod (N : Nat) (a0 : Nat) (b1 : Int32) (a2 : Nat) (S : shp) (v : vl) : SimK B_lw_byPeriod 0 (entB (bN B_lw_byPeriod) [.ref a0, .int b1, .ref a2]) [] S v (F_lw_byPeriod N a0 b1 a2 S v) (ρgi) := by
  show SimK B_lw_byPeriod 0 [some (.ref a0), some (.int b1), some (.ref a2), none] [] S v (F_lw_byPeriod N a0 b1 a2 S v) _
  unfold F_lw_byPeriod
  refine sim_seg [(.aload_n 2, 0, 0, 0), (.iconst 0, 0, 0, 0), (.aload_n 0, 0, 0, 0), (.iload_n 1, 0, 0, 0)] [] (q := 4) (L' := [some (.ref a0), some (.int b1), some (.ref a2), none]) (st' := [.int b1, .ref a0, .int (J 0), .ref a2]) (v1 := v) (by decide +kernel) rfl trivial ?_
  refine sim_grd fun h1 => ?_
  refine sim_catch1 (kA := 0) (x := ⟨0, 9, 12, 13⟩) (ok_gc_byPeriod N a0 b1 S v) (cf_V (idx := 57) (ci := 5) [.int b1] m_gc_byPeriod (by decide) ⟨by decide, by decide⟩ (List.mem_of_getElem? (i := 1405) (by decide +kernel)) rfl (Nat.le_of_ble_eq_true rfl) h1 (by decide +kernel) (Nat.le_of_ble_eq_true rfl) rfl) (fun _ => rfl) rfl (by decide) (by decide) (List.mem_of_getElem? (i := 1267) (by decide +kernel)) (by decide) ?_ (fun b _ => ?_)
  · intro r10
    refine sim_lt (x := skip S 6) ?_
    generalize skip S 6 = S9
    show SimK B_lw_byPeriod 12 [some (.ref a0), some (.int b1), some (.ref a2), none] [.ref r10] S9 v _ _
    refine sim_seg [(.astore_n 3, 0, 0, 0)] [] (q := 13) (L' := [some (.ref a0), some (.int b1), some (.ref a2), some (.ref r10)]) (st' := []) (v1 := v) (by decide +kernel) rfl trivial ?_
    refine sim_seg [(.iconst 1, 0, 0, 1)] [] (q := 14) (L' := [some (.ref a0), some (.int b1), some (.ref a2), some (.ref r10)]) (st' := [.int (J 1)]) (v1 := v) (by decide +kernel) rfl trivial ?_
    exact sim_iret (by decide +kernel) rfl rfl rfl
  obtain ⟨x2, S3, w4⟩ := b
  refine ⟨some (.int x2), rfl, ?_⟩
  show SimK B_lw_byPeriod 7 [some (.ref a0), some (.int b1), some (.ref a2), none] [.int x2, .int (J 0), .ref a2] S3 w4 _ _
  refine sim_grd fun h6 => ?_
  refine sim_grd fun h7 => ?_
  refine sim_seg [(.i2l, 0, 0, 0), (.lastore, 0, 0, 0), (.goto 6, 0, 0, 0), (.iconst 0, 0, 0, 0)] [] (q := 16) (L' := [some (.ref a0), some (.int b1), some (.ref a2), none]) (st' := [.int (J 0)]) (v1 := (sl w4 a2 0 (Int32.toInt64 x2))) (by decide +kernel) rfl ⟨⟨h6, h7⟩, trivial⟩ ?_
  refine sim_lt (x := (sl w4 a2 0 (Int32.toInt64 x2))) ?_
  generalize (sl w4 a2 0 (Int32.toInt64 x2)) = w8
  exact sim_iret (by decide +kernel) rfl rfl rfl
def B_lw_calibrate : bd := (⟨"GateCounterLaw", "calibrate", "(LGateCounter;I[J)I"⟩, method_27_code, 4, (some .int), [(0, 9, 12, 13)], 15, 9)
theorem m_lw_calibrate : mX B_lw_calibrate 3 := ⟨⟨⟨by decide +kernel, Or.inr (by decide +kernel)⟩, rfl, (List.mem_of_getElem? (i := 1498) (by decide +kernel)), by decide +kernel, (List.mem_of_getElem? (i := 94) (by decide +kernel)), ⟨by decide, by decide⟩, by decide⟩, List.cons_ne_nil _ _, (by unfold nar; decide +kernel), (List.mem_of_getElem? (i := 1497) (by decide +kernel))⟩
noncomputable def F_lw_calibrate (N : Nat) (a0 : Nat) (b1 : Int32) (a2 : Nat) (S : shp) (v : vl) : Option (Int32 × shp × vl) :=
  grd (kin S a0 = some (0, 5)) <| bx (F_gc_calibrate N a0 b1 S v) (fun k0 => if k0 = 0 then lt (skip S 6) fun S9 => some (((J 1), S9, v)) else none) fun (x2, S3, w4) => grd (kin S3 a2 = some (3, alen S3 a2)) <| grd (vp_in (J 0) (alen S3 a2)) <| lt (sl w4 a2 0 (Int32.toInt64 x2)) fun w8 => some (((J 0), S3, w8))
theorem ok_lw_calibrate (N : Nat) (a0 : Nat) (b1 : Int32) (a2 : Nat) (S : shp) (v : vl) : SimK B_lw_calibrate 0 (entB (bN B_lw_calibrate) [.ref a0, .int b1, .ref a2]) [] S v (F_lw_calibrate N a0 b1 a2 S v) (ρgi) := by
  show SimK B_lw_calibrate 0 [some (.ref a0), some (.int b1), some (.ref a2), none] [] S v (F_lw_calibrate N a0 b1 a2 S v) _
  unfold F_lw_calibrate
  refine sim_seg [(.aload_n 2, 0, 0, 0), (.iconst 0, 0, 0, 0), (.aload_n 0, 0, 0, 0), (.iload_n 1, 0, 0, 0)] [] (q := 4) (L' := [some (.ref a0), some (.int b1), some (.ref a2), none]) (st' := [.int b1, .ref a0, .int (J 0), .ref a2]) (v1 := v) (by decide +kernel) rfl trivial ?_
  refine sim_grd fun h1 => ?_
  refine sim_catch1 (kA := 0) (x := ⟨0, 9, 12, 13⟩) (ok_gc_calibrate N a0 b1 S v) (cf_V (idx := 89) (ci := 5) [.int b1] m_gc_calibrate (by decide) ⟨by decide, by decide⟩ (List.mem_of_getElem? (i := 1499) (by decide +kernel)) rfl (Nat.le_of_ble_eq_true rfl) h1 (by decide +kernel) (Nat.le_of_ble_eq_true rfl) rfl) (fun _ => rfl) rfl (by decide) (by decide) (List.mem_of_getElem? (i := 1267) (by decide +kernel)) (by decide) ?_ (fun b _ => ?_)
  · intro r10
    refine sim_lt (x := skip S 6) ?_
    generalize skip S 6 = S9
    show SimK B_lw_calibrate 12 [some (.ref a0), some (.int b1), some (.ref a2), none] [.ref r10] S9 v _ _
    refine sim_seg [(.astore_n 3, 0, 0, 0)] [] (q := 13) (L' := [some (.ref a0), some (.int b1), some (.ref a2), some (.ref r10)]) (st' := []) (v1 := v) (by decide +kernel) rfl trivial ?_
    refine sim_seg [(.iconst 1, 0, 0, 1)] [] (q := 14) (L' := [some (.ref a0), some (.int b1), some (.ref a2), some (.ref r10)]) (st' := [.int (J 1)]) (v1 := v) (by decide +kernel) rfl trivial ?_
    exact sim_iret (by decide +kernel) rfl rfl rfl
  obtain ⟨x2, S3, w4⟩ := b
  refine ⟨some (.int x2), rfl, ?_⟩
  show SimK B_lw_calibrate 7 [some (.ref a0), some (.int b1), some (.ref a2), none] [.int x2, .int (J 0), .ref a2] S3 w4 _ _
  refine sim_grd fun h6 => ?_
  refine sim_grd fun h7 => ?_
  refine sim_seg [(.i2l, 0, 0, 0), (.lastore, 0, 0, 0), (.goto 6, 0, 0, 0), (.iconst 0, 0, 0, 0)] [] (q := 16) (L' := [some (.ref a0), some (.int b1), some (.ref a2), none]) (st' := [.int (J 0)]) (v1 := (sl w4 a2 0 (Int32.toInt64 x2))) (by decide +kernel) rfl ⟨⟨h6, h7⟩, trivial⟩ ?_
  refine sim_lt (x := (sl w4 a2 0 (Int32.toInt64 x2))) ?_
  generalize (sl w4 a2 0 (Int32.toInt64 x2)) = w8
  exact sim_iret (by decide +kernel) rfl rfl rfl
def B_lw_clocksIn : bd := (⟨"GateCounterLaw", "clocksIn", "(LGateCounter;I[J)I"⟩, method_10_code, 4, (some .int), [(0, 9, 12, 13)], 15, 9)
theorem m_lw_clocksIn : mX B_lw_clocksIn 3 := ⟨⟨⟨by decide +kernel, Or.inr (by decide +kernel)⟩, rfl, (List.mem_of_getElem? (i := 1346) (by decide +kernel)), by decide +kernel, (List.mem_of_getElem? (i := 94) (by decide +kernel)), ⟨by decide, by decide⟩, by decide⟩, List.cons_ne_nil _ _, (by unfold nar; decide +kernel), (List.mem_of_getElem? (i := 1345) (by decide +kernel))⟩
noncomputable def F_lw_clocksIn (N : Nat) (a0 : Nat) (b1 : Int32) (a2 : Nat) (S : shp) (v : vl) : Option (Int32 × shp × vl) :=
  grd (kin S a0 = some (0, 5)) <| bx (F_gc_clocksIn N a0 b1 S v) (fun k0 => if k0 = 0 then lt (skip S 6) fun S9 => some (((J 1), S9, v)) else none) fun (x2, S3, w4) => grd (kin S3 a2 = some (3, alen S3 a2)) <| grd (vp_in (J 0) (alen S3 a2)) <| lt (sl w4 a2 0 (Int32.toInt64 x2)) fun w8 => some (((J 0), S3, w8))
theorem ok_lw_clocksIn (N : Nat) (a0 : Nat) (b1 : Int32) (a2 : Nat) (S : shp) (v : vl) : SimK B_lw_clocksIn 0 (entB (bN B_lw_clocksIn) [.ref a0, .int b1, .ref a2]) [] S v (F_lw_clocksIn N a0 b1 a2 S v) (ρgi) := by
  show SimK B_lw_clocksIn 0 [some (.ref a0), some (.int b1), some (.ref a2), none] [] S v (F_lw_clocksIn N a0 b1 a2 S v) _
  unfold F_lw_clocksIn
  refine sim_seg [(.aload_n 2, 0, 0, 0), (.iconst 0, 0, 0, 0), (.aload_n 0, 0, 0, 0), (.iload_n 1, 0, 0, 0)] [] (q := 4) (L' := [some (.ref a0), some (.int b1), some (.ref a2), none]) (st' := [.int b1, .ref a0, .int (J 0), .ref a2]) (v1 := v) (by decide +kernel) rfl trivial ?_
  refine sim_grd fun h1 => ?_
  refine sim_catch1 (kA := 0) (x := ⟨0, 9, 12, 13⟩) (ok_gc_clocksIn N a0 b1 S v) (cf_V (idx := 36) (ci := 5) [.int b1] m_gc_clocksIn (by decide) ⟨by decide, by decide⟩ (List.mem_of_getElem? (i := 1347) (by decide +kernel)) rfl (Nat.le_of_ble_eq_true rfl) h1 (by decide +kernel) (Nat.le_of_ble_eq_true rfl) rfl) (fun _ => rfl) rfl (by decide) (by decide) (List.mem_of_getElem? (i := 1267) (by decide +kernel)) (by decide) ?_ (fun b _ => ?_)
  · intro r10
    refine sim_lt (x := skip S 6) ?_
    generalize skip S 6 = S9
    show SimK B_lw_clocksIn 12 [some (.ref a0), some (.int b1), some (.ref a2), none] [.ref r10] S9 v _ _
    refine sim_seg [(.astore_n 3, 0, 0, 0)] [] (q := 13) (L' := [some (.ref a0), some (.int b1), some (.ref a2), some (.ref r10)]) (st' := []) (v1 := v) (by decide +kernel) rfl trivial ?_
    refine sim_seg [(.iconst 1, 0, 0, 1)] [] (q := 14) (L' := [some (.ref a0), some (.int b1), some (.ref a2), some (.ref r10)]) (st' := [.int (J 1)]) (v1 := v) (by decide +kernel) rfl trivial ?_
    exact sim_iret (by decide +kernel) rfl rfl rfl
  obtain ⟨x2, S3, w4⟩ := b
  refine ⟨some (.int x2), rfl, ?_⟩
  show SimK B_lw_clocksIn 7 [some (.ref a0), some (.int b1), some (.ref a2), none] [.int x2, .int (J 0), .ref a2] S3 w4 _ _
  refine sim_grd fun h6 => ?_
  refine sim_grd fun h7 => ?_
  refine sim_seg [(.i2l, 0, 0, 0), (.lastore, 0, 0, 0), (.goto 6, 0, 0, 0), (.iconst 0, 0, 0, 0)] [] (q := 16) (L' := [some (.ref a0), some (.int b1), some (.ref a2), none]) (st' := [.int (J 0)]) (v1 := (sl w4 a2 0 (Int32.toInt64 x2))) (by decide +kernel) rfl ⟨⟨h6, h7⟩, trivial⟩ ?_
  refine sim_lt (x := (sl w4 a2 0 (Int32.toInt64 x2))) ?_
  generalize (sl w4 a2 0 (Int32.toInt64 x2)) = w8
  exact sim_iret (by decide +kernel) rfl rfl rfl
def B_lw_clocksTo : bd := (⟨"GateCounterLaw", "clocksTo", "(LGateCounter;I[J)I"⟩, method_15_code, 4, (some .int), [(0, 9, 12, 13)], 15, 9)
theorem m_lw_clocksTo : mX B_lw_clocksTo 3 := ⟨⟨⟨by decide +kernel, Or.inr (by decide +kernel)⟩, rfl, (List.mem_of_getElem? (i := 1385) (by decide +kernel)), by decide +kernel, (List.mem_of_getElem? (i := 94) (by decide +kernel)), ⟨by decide, by decide⟩, by decide⟩, List.cons_ne_nil _ _, (by unfold nar; decide +kernel), (List.mem_of_getElem? (i := 1384) (by decide +kernel))⟩
noncomputable def F_lw_clocksTo (a0 : Nat) (b1 : Int32) (a2 : Nat) (S : shp) (v : vl) : Option (Int32 × shp × vl) :=
  grd (kin S a0 = some (0, 5)) <| bx (F_gc_clocksTo a0 b1 S v) (fun k0 => if k0 = 0 then lt (skip S 6) fun S6 => some (((J 1), S6, v)) else none) fun x2 => grd (kin S a2 = some (3, alen S a2)) <| grd (vp_in (J 0) (alen S a2)) <| lt (sl v a2 0 (Int32.toInt64 x2)) fun w5 => some (((J 0), S, w5))
theorem ok_lw_clocksTo (a0 : Nat) (b1 : Int32) (a2 : Nat) (S : shp) (v : vl) : SimK B_lw_clocksTo 0 (entB (bN B_lw_clocksTo) [.ref a0, .int b1, .ref a2]) [] S v (F_lw_clocksTo a0 b1 a2 S v) (ρgi) := by
  show SimK B_lw_clocksTo 0 [some (.ref a0), some (.int b1), some (.ref a2), none] [] S v (F_lw_clocksTo a0 b1 a2 S v) _
  unfold F_lw_clocksTo
  refine sim_seg [(.aload_n 2, 0, 0, 0), (.iconst 0, 0, 0, 0), (.aload_n 0, 0, 0, 0), (.iload_n 1, 0, 0, 0)] [] (q := 4) (L' := [some (.ref a0), some (.int b1), some (.ref a2), none]) (st' := [.int b1, .ref a0, .int (J 0), .ref a2]) (v1 := v) (by decide +kernel) rfl trivial ?_
  refine sim_grd fun h1 => ?_
  refine sim_catch1 (kA := 0) (x := ⟨0, 9, 12, 13⟩) (ok_gc_clocksTo a0 b1 S v) (cf_V (idx := 51) (ci := 5) [.int b1] m_gc_clocksTo (by decide) ⟨by decide, by decide⟩ (List.mem_of_getElem? (i := 1386) (by decide +kernel)) rfl (Nat.le_of_ble_eq_true rfl) h1 (by decide +kernel) (Nat.le_of_ble_eq_true rfl) rfl) (fun _ => rfl) rfl (by decide) (by decide) (List.mem_of_getElem? (i := 1267) (by decide +kernel)) (by decide) ?_ (fun b _ => ?_)
  · intro r7
    refine sim_lt (x := skip S 6) ?_
    generalize skip S 6 = S6
    show SimK B_lw_clocksTo 12 [some (.ref a0), some (.int b1), some (.ref a2), none] [.ref r7] S6 v _ _
    refine sim_seg [(.astore_n 3, 0, 0, 0)] [] (q := 13) (L' := [some (.ref a0), some (.int b1), some (.ref a2), some (.ref r7)]) (st' := []) (v1 := v) (by decide +kernel) rfl trivial ?_
    refine sim_seg [(.iconst 1, 0, 0, 1)] [] (q := 14) (L' := [some (.ref a0), some (.int b1), some (.ref a2), some (.ref r7)]) (st' := [.int (J 1)]) (v1 := v) (by decide +kernel) rfl trivial ?_
    exact sim_iret (by decide +kernel) rfl rfl rfl
  generalize b = x2
  refine ⟨some (.int x2), rfl, ?_⟩
  show SimK B_lw_clocksTo 7 [some (.ref a0), some (.int b1), some (.ref a2), none] [.int x2, .int (J 0), .ref a2] S v _ _
  refine sim_grd fun h3 => ?_
  refine sim_grd fun h4 => ?_
  refine sim_seg [(.i2l, 0, 0, 0), (.lastore, 0, 0, 0), (.goto 6, 0, 0, 0), (.iconst 0, 0, 0, 0)] [] (q := 16) (L' := [some (.ref a0), some (.int b1), some (.ref a2), none]) (st' := [.int (J 0)]) (v1 := (sl v a2 0 (Int32.toInt64 x2))) (by decide +kernel) rfl ⟨⟨h3, h4⟩, trivial⟩ ?_
  refine sim_lt (x := (sl v a2 0 (Int32.toInt64 x2))) ?_
  generalize (sl v a2 0 (Int32.toInt64 x2)) = w5
  exact sim_iret (by decide +kernel) rfl rfl rfl
def B_lw_correctionFor : bd := (⟨"GateCounterLaw", "correctionFor", "(LGateCounter;I[J)I"⟩, method_23_code, 4, (some .int), [(0, 9, 12, 13)], 15, 9)
theorem m_lw_correctionFor : mX B_lw_correctionFor 3 := ⟨⟨⟨by decide +kernel, Or.inr (by decide +kernel)⟩, rfl, (List.mem_of_getElem? (i := 1454) (by decide +kernel)), by decide +kernel, (List.mem_of_getElem? (i := 94) (by decide +kernel)), ⟨by decide, by decide⟩, by decide⟩, List.cons_ne_nil _ _, (by unfold nar; decide +kernel), (List.mem_of_getElem? (i := 1453) (by decide +kernel))⟩
noncomputable def F_lw_correctionFor (N : Nat) (a0 : Nat) (b1 : Int32) (a2 : Nat) (S : shp) (v : vl) : Option (Int32 × shp × vl) :=
  grd (kin S a0 = some (0, 5)) <| bx (F_gc_correctionFor N a0 b1 S v) (fun k0 => if k0 = 0 then lt (skip S 6) fun S9 => some (((J 1), S9, v)) else none) fun (x2, S3, w4) => grd (kin S3 a2 = some (3, alen S3 a2)) <| grd (vp_in (J 0) (alen S3 a2)) <| lt (sl w4 a2 0 (Int32.toInt64 x2)) fun w8 => some (((J 0), S3, w8))
theorem ok_lw_correctionFor (N : Nat) (a0 : Nat) (b1 : Int32) (a2 : Nat) (S : shp) (v : vl) : SimK B_lw_correctionFor 0 (entB (bN B_lw_correctionFor) [.ref a0, .int b1, .ref a2]) [] S v (F_lw_correctionFor N a0 b1 a2 S v) (ρgi) := by
  show SimK B_lw_correctionFor 0 [some (.ref a0), some (.int b1), some (.ref a2), none] [] S v (F_lw_correctionFor N a0 b1 a2 S v) _
  unfold F_lw_correctionFor
  refine sim_seg [(.aload_n 2, 0, 0, 0), (.iconst 0, 0, 0, 0), (.aload_n 0, 0, 0, 0), (.iload_n 1, 0, 0, 0)] [] (q := 4) (L' := [some (.ref a0), some (.int b1), some (.ref a2), none]) (st' := [.int b1, .ref a0, .int (J 0), .ref a2]) (v1 := v) (by decide +kernel) rfl trivial ?_
  refine sim_grd fun h1 => ?_
  refine sim_catch1 (kA := 0) (x := ⟨0, 9, 12, 13⟩) (ok_gc_correctionFor N a0 b1 S v) (cf_V (idx := 75) (ci := 5) [.int b1] m_gc_correctionFor (by decide) ⟨by decide, by decide⟩ (List.mem_of_getElem? (i := 1455) (by decide +kernel)) rfl (Nat.le_of_ble_eq_true rfl) h1 (by decide +kernel) (Nat.le_of_ble_eq_true rfl) rfl) (fun _ => rfl) rfl (by decide) (by decide) (List.mem_of_getElem? (i := 1267) (by decide +kernel)) (by decide) ?_ (fun b _ => ?_)
  · intro r10
    refine sim_lt (x := skip S 6) ?_
    generalize skip S 6 = S9
    show SimK B_lw_correctionFor 12 [some (.ref a0), some (.int b1), some (.ref a2), none] [.ref r10] S9 v _ _
    refine sim_seg [(.astore_n 3, 0, 0, 0)] [] (q := 13) (L' := [some (.ref a0), some (.int b1), some (.ref a2), some (.ref r10)]) (st' := []) (v1 := v) (by decide +kernel) rfl trivial ?_
    refine sim_seg [(.iconst 1, 0, 0, 1)] [] (q := 14) (L' := [some (.ref a0), some (.int b1), some (.ref a2), some (.ref r10)]) (st' := [.int (J 1)]) (v1 := v) (by decide +kernel) rfl trivial ?_
    exact sim_iret (by decide +kernel) rfl rfl rfl
  obtain ⟨x2, S3, w4⟩ := b
  refine ⟨some (.int x2), rfl, ?_⟩
  show SimK B_lw_correctionFor 7 [some (.ref a0), some (.int b1), some (.ref a2), none] [.int x2, .int (J 0), .ref a2] S3 w4 _ _
  refine sim_grd fun h6 => ?_
  refine sim_grd fun h7 => ?_
  refine sim_seg [(.i2l, 0, 0, 0), (.lastore, 0, 0, 0), (.goto 6, 0, 0, 0), (.iconst 0, 0, 0, 0)] [] (q := 16) (L' := [some (.ref a0), some (.int b1), some (.ref a2), none]) (st' := [.int (J 0)]) (v1 := (sl w4 a2 0 (Int32.toInt64 x2))) (by decide +kernel) rfl ⟨⟨h6, h7⟩, trivial⟩ ?_
  refine sim_lt (x := (sl w4 a2 0 (Int32.toInt64 x2))) ?_
  generalize (sl w4 a2 0 (Int32.toInt64 x2)) = w8
  exact sim_iret (by decide +kernel) rfl rfl rfl
def B_lw_count : bd := (⟨"GateCounterLaw", "count", "(LGateCounter;I[J)I"⟩, method_3_code, 4, (some .int), [(0, 9, 12, 13)], 15, 7)
theorem m_lw_count : mX B_lw_count 3 := ⟨⟨⟨by decide +kernel, Or.inr (by decide +kernel)⟩, rfl, (List.mem_of_getElem? (i := 1266) (by decide +kernel)), by decide +kernel, (List.mem_of_getElem? (i := 94) (by decide +kernel)), ⟨by decide, by decide⟩, by decide⟩, List.cons_ne_nil _ _, (by unfold nar; decide +kernel), (List.mem_of_getElem? (i := 1265) (by decide +kernel))⟩
noncomputable def F_lw_count (a0 : Nat) (b1 : Int32) (a2 : Nat) (S : shp) (v : vl) : Option (Int32 × shp × vl) :=
  grd (kin S a0 = some (0, 5)) <| bx (F_gc_count a0 b1 S v) (fun k0 => if k0 = 0 then lt (skip S 6) fun S6 => some (((J 1), S6, v)) else none) fun x2 => grd (kin S a2 = some (3, alen S a2)) <| grd (vp_in (J 0) (alen S a2)) <| lt (sl v a2 0 (Int32.toInt64 x2)) fun w5 => some (((J 0), S, w5))
theorem ok_lw_count (a0 : Nat) (b1 : Int32) (a2 : Nat) (S : shp) (v : vl) : SimK B_lw_count 0 (entB (bN B_lw_count) [.ref a0, .int b1, .ref a2]) [] S v (F_lw_count a0 b1 a2 S v) (ρgi) := by
  show SimK B_lw_count 0 [some (.ref a0), some (.int b1), some (.ref a2), none] [] S v (F_lw_count a0 b1 a2 S v) _
  unfold F_lw_count
  refine sim_seg [(.aload_n 2, 0, 0, 0), (.iconst 0, 0, 0, 0), (.aload_n 0, 0, 0, 0), (.iload_n 1, 0, 0, 0)] [] (q := 4) (L' := [some (.ref a0), some (.int b1), some (.ref a2), none]) (st' := [.int b1, .ref a0, .int (J 0), .ref a2]) (v1 := v) (by decide +kernel) rfl trivial ?_
  refine sim_grd fun h1 => ?_
  refine sim_catch1 (kA := 0) (x := ⟨0, 9, 12, 13⟩) (ok_gc_count a0 b1 S v) (cf_V (idx := 7) (ci := 5) [.int b1] m_gc_count (by decide) ⟨by decide, by decide⟩ (List.mem_of_getElem? (i := 1268) (by decide +kernel)) rfl (Nat.le_of_ble_eq_true rfl) h1 (by decide +kernel) (Nat.le_of_ble_eq_true rfl) rfl) (fun _ => rfl) rfl (by decide) (by decide) (List.mem_of_getElem? (i := 1267) (by decide +kernel)) (by decide) ?_ (fun b _ => ?_)
  · intro r7
    refine sim_lt (x := skip S 6) ?_
    generalize skip S 6 = S6
    show SimK B_lw_count 12 [some (.ref a0), some (.int b1), some (.ref a2), none] [.ref r7] S6 v _ _
    refine sim_seg [(.astore_n 3, 0, 0, 0)] [] (q := 13) (L' := [some (.ref a0), some (.int b1), some (.ref a2), some (.ref r7)]) (st' := []) (v1 := v) (by decide +kernel) rfl trivial ?_
    refine sim_seg [(.iconst 1, 0, 0, 1)] [] (q := 14) (L' := [some (.ref a0), some (.int b1), some (.ref a2), some (.ref r7)]) (st' := [.int (J 1)]) (v1 := v) (by decide +kernel) rfl trivial ?_
    exact sim_iret (by decide +kernel) rfl rfl rfl
  generalize b = x2
  refine ⟨some (.int x2), rfl, ?_⟩
  show SimK B_lw_count 7 [some (.ref a0), some (.int b1), some (.ref a2), none] [.int x2, .int (J 0), .ref a2] S v _ _
  refine sim_grd fun h3 => ?_
  refine sim_grd fun h4 => ?_
  refine sim_seg [(.i2l, 0, 0, 0), (.lastore, 0, 0, 0), (.goto 6, 0, 0, 0), (.iconst 0, 0, 0, 0)] [] (q := 16) (L' := [some (.ref a0), some (.int b1), some (.ref a2), none]) (st' := [.int (J 0)]) (v1 := (sl v a2 0 (Int32.toInt64 x2))) (by decide +kernel) rfl ⟨⟨h3, h4⟩, trivial⟩ ?_
  refine sim_lt (x := (sl v a2 0 (Int32.toInt64 x2))) ?_
  generalize (sl v a2 0 (Int32.toInt64 x2)) = w5
  exact sim_iret (by decide +kernel) rfl rfl rfl
def B_lw_driftIn : bd := (⟨"GateCounterLaw", "driftIn", "(LGateCounter;I[J)I"⟩, method_11_code, 4, (some .int), [(0, 9, 12, 13)], 15, 9)
theorem m_lw_driftIn : mX B_lw_driftIn 3 := ⟨⟨⟨by decide +kernel, Or.inr (by decide +kernel)⟩, rfl, (List.mem_of_getElem? (i := 1354) (by decide +kernel)), by decide +kernel, (List.mem_of_getElem? (i := 94) (by decide +kernel)), ⟨by decide, by decide⟩, by decide⟩, List.cons_ne_nil _ _, (by unfold nar; decide +kernel), (List.mem_of_getElem? (i := 1353) (by decide +kernel))⟩
noncomputable def F_lw_driftIn (N : Nat) (a0 : Nat) (b1 : Int32) (a2 : Nat) (S : shp) (v : vl) : Option (Int32 × shp × vl) :=
  grd (kin S a0 = some (0, 5)) <| bx (F_gc_driftIn N a0 b1 S v) (fun k0 => if k0 = 0 then lt (skip S 6) fun S9 => some (((J 1), S9, v)) else none) fun (x2, S3, w4) => grd (kin S3 a2 = some (3, alen S3 a2)) <| grd (vp_in (J 0) (alen S3 a2)) <| lt (sl w4 a2 0 (Int32.toInt64 x2)) fun w8 => some (((J 0), S3, w8))
theorem ok_lw_driftIn (N : Nat) (a0 : Nat) (b1 : Int32) (a2 : Nat) (S : shp) (v : vl) : SimK B_lw_driftIn 0 (entB (bN B_lw_driftIn) [.ref a0, .int b1, .ref a2]) [] S v (F_lw_driftIn N a0 b1 a2 S v) (ρgi) := by
  show SimK B_lw_driftIn 0 [some (.ref a0), some (.int b1), some (.ref a2), none] [] S v (F_lw_driftIn N a0 b1 a2 S v) _
  unfold F_lw_driftIn
  refine sim_seg [(.aload_n 2, 0, 0, 0), (.iconst 0, 0, 0, 0), (.aload_n 0, 0, 0, 0), (.iload_n 1, 0, 0, 0)] [] (q := 4) (L' := [some (.ref a0), some (.int b1), some (.ref a2), none]) (st' := [.int b1, .ref a0, .int (J 0), .ref a2]) (v1 := v) (by decide +kernel) rfl trivial ?_
  refine sim_grd fun h1 => ?_
  refine sim_catch1 (kA := 0) (x := ⟨0, 9, 12, 13⟩) (ok_gc_driftIn N a0 b1 S v) (cf_V (idx := 39) (ci := 5) [.int b1] m_gc_driftIn (by decide) ⟨by decide, by decide⟩ (List.mem_of_getElem? (i := 1355) (by decide +kernel)) rfl (Nat.le_of_ble_eq_true rfl) h1 (by decide +kernel) (Nat.le_of_ble_eq_true rfl) rfl) (fun _ => rfl) rfl (by decide) (by decide) (List.mem_of_getElem? (i := 1267) (by decide +kernel)) (by decide) ?_ (fun b _ => ?_)
  · intro r10
    refine sim_lt (x := skip S 6) ?_
    generalize skip S 6 = S9
    show SimK B_lw_driftIn 12 [some (.ref a0), some (.int b1), some (.ref a2), none] [.ref r10] S9 v _ _
    refine sim_seg [(.astore_n 3, 0, 0, 0)] [] (q := 13) (L' := [some (.ref a0), some (.int b1), some (.ref a2), some (.ref r10)]) (st' := []) (v1 := v) (by decide +kernel) rfl trivial ?_
    refine sim_seg [(.iconst 1, 0, 0, 1)] [] (q := 14) (L' := [some (.ref a0), some (.int b1), some (.ref a2), some (.ref r10)]) (st' := [.int (J 1)]) (v1 := v) (by decide +kernel) rfl trivial ?_
    exact sim_iret (by decide +kernel) rfl rfl rfl
  obtain ⟨x2, S3, w4⟩ := b
  refine ⟨some (.int x2), rfl, ?_⟩
  show SimK B_lw_driftIn 7 [some (.ref a0), some (.int b1), some (.ref a2), none] [.int x2, .int (J 0), .ref a2] S3 w4 _ _
  refine sim_grd fun h6 => ?_
  refine sim_grd fun h7 => ?_
  refine sim_seg [(.i2l, 0, 0, 0), (.lastore, 0, 0, 0), (.goto 6, 0, 0, 0), (.iconst 0, 0, 0, 0)] [] (q := 16) (L' := [some (.ref a0), some (.int b1), some (.ref a2), none]) (st' := [.int (J 0)]) (v1 := (sl w4 a2 0 (Int32.toInt64 x2))) (by decide +kernel) rfl ⟨⟨h6, h7⟩, trivial⟩ ?_
  refine sim_lt (x := (sl w4 a2 0 (Int32.toInt64 x2))) ?_
  generalize (sl w4 a2 0 (Int32.toInt64 x2)) = w8
  exact sim_iret (by decide +kernel) rfl rfl rfl
def B_lw_drop : bd := (⟨"GateCounterLaw", "drop", "(LGateCounter;I[J)I"⟩, method_32_code, 4, (some .int), [(0, 9, 12, 25)], 15, 8)
theorem m_lw_drop : mX B_lw_drop 3 := ⟨⟨⟨by decide +kernel, Or.inr (by decide +kernel)⟩, rfl, (List.mem_of_getElem? (i := 1545) (by decide +kernel)), by decide +kernel, (List.mem_of_getElem? (i := 94) (by decide +kernel)), ⟨by decide, by decide⟩, by decide⟩, List.cons_ne_nil _ _, (by unfold nar; decide +kernel), (List.mem_of_getElem? (i := 1544) (by decide +kernel))⟩
noncomputable def F_lw_drop (N : Nat) (a0 : Nat) (b1 : Int32) (a2 : Nat) (S : shp) (v : vl) : Option (Int32 × shp × vl) :=
  grd (kin S a0 = some (0, 5)) <| bx (F_gc_drop N a0 b1 S v) (fun k0 => if k0 = 1 then lt (skip S 6) fun S9 => some (((J 1), S9, v)) else none) fun (x2, S3, w4) => grd (kin S3 a2 = some (3, alen S3 a2)) <| grd (vp_in (J 0) (alen S3 a2)) <| lt (sl w4 a2 0 (Int32.toInt64 x2)) fun w8 => some (((J 0), S3, w8))
theorem ok_lw_drop (N : Nat) (a0 : Nat) (b1 : Int32) (a2 : Nat) (S : shp) (v : vl) : SimK B_lw_drop 0 (entB (bN B_lw_drop) [.ref a0, .int b1, .ref a2]) [] S v (F_lw_drop N a0 b1 a2 S v) (ρgi) := by
  show SimK B_lw_drop 0 [some (.ref a0), some (.int b1), some (.ref a2), none] [] S v (F_lw_drop N a0 b1 a2 S v) _
  unfold F_lw_drop
  refine sim_seg [(.aload_n 2, 0, 0, 0), (.iconst 0, 0, 0, 0), (.aload_n 0, 0, 0, 0), (.iload_n 1, 0, 0, 0)] [] (q := 4) (L' := [some (.ref a0), some (.int b1), some (.ref a2), none]) (st' := [.int b1, .ref a0, .int (J 0), .ref a2]) (v1 := v) (by decide +kernel) rfl trivial ?_
  refine sim_grd fun h1 => ?_
  refine sim_catch1 (kA := 1) (x := ⟨0, 9, 12, 25⟩) (ok_gc_drop N a0 b1 S v) (cf_V (idx := 105) (ci := 5) [.int b1] m_gc_drop (by decide) ⟨by decide, by decide⟩ (List.mem_of_getElem? (i := 1546) (by decide +kernel)) rfl (Nat.le_of_ble_eq_true rfl) h1 (by decide +kernel) (Nat.le_of_ble_eq_true rfl) rfl) (fun _ => rfl) rfl (by decide) (by decide) (List.mem_of_getElem? (i := 1286) (by decide +kernel)) (by decide) ?_ (fun b _ => ?_)
  · intro r10
    refine sim_lt (x := skip S 6) ?_
    generalize skip S 6 = S9
    show SimK B_lw_drop 12 [some (.ref a0), some (.int b1), some (.ref a2), none] [.ref r10] S9 v _ _
    refine sim_seg [(.astore_n 3, 0, 0, 0)] [] (q := 13) (L' := [some (.ref a0), some (.int b1), some (.ref a2), some (.ref r10)]) (st' := []) (v1 := v) (by decide +kernel) rfl trivial ?_
    refine sim_seg [(.iconst 1, 0, 0, 1)] [] (q := 14) (L' := [some (.ref a0), some (.int b1), some (.ref a2), some (.ref r10)]) (st' := [.int (J 1)]) (v1 := v) (by decide +kernel) rfl trivial ?_
    exact sim_iret (by decide +kernel) rfl rfl rfl
  obtain ⟨x2, S3, w4⟩ := b
  refine ⟨some (.int x2), rfl, ?_⟩
  show SimK B_lw_drop 7 [some (.ref a0), some (.int b1), some (.ref a2), none] [.int x2, .int (J 0), .ref a2] S3 w4 _ _
  refine sim_grd fun h6 => ?_
  refine sim_grd fun h7 => ?_
  refine sim_seg [(.i2l, 0, 0, 0), (.lastore, 0, 0, 0), (.goto 6, 0, 0, 0), (.iconst 0, 0, 0, 0)] [] (q := 16) (L' := [some (.ref a0), some (.int b1), some (.ref a2), none]) (st' := [.int (J 0)]) (v1 := (sl w4 a2 0 (Int32.toInt64 x2))) (by decide +kernel) rfl ⟨⟨h6, h7⟩, trivial⟩ ?_
  refine sim_lt (x := (sl w4 a2 0 (Int32.toInt64 x2))) ?_
  generalize (sl w4 a2 0 (Int32.toInt64 x2)) = w8
  exact sim_iret (by decide +kernel) rfl rfl rfl
def B_lw_dropSegment : bd := (⟨"GateCounterLaw", "dropSegment", "(LGateCounter;[J)I"⟩, method_31_code, 3, (some .int), [(0, 8, 11, 84)], 15, 7)
theorem m_lw_dropSegment : mX B_lw_dropSegment 2 := ⟨⟨⟨by decide +kernel, Or.inr (by decide +kernel)⟩, rfl, (List.mem_of_getElem? (i := 1538) (by decide +kernel)), by decide +kernel, (List.mem_of_getElem? (i := 94) (by decide +kernel)), ⟨by decide, by decide⟩, by decide⟩, List.cons_ne_nil _ _, (by unfold nar; decide +kernel), (List.mem_of_getElem? (i := 1537) (by decide +kernel))⟩
noncomputable def F_lw_dropSegment (N : Nat) (a0 : Nat) (a1 : Nat) (S : shp) (v : vl) : Option (Int32 × shp × vl) :=
  grd (kin S a0 = some (0, 5)) <| bx (F_gc_dropSegment N a0 S v) (fun k0 => if k0 = 2 then lt (skip S 6) fun S9 => some (((J 1), S9, v)) else none) fun (x2, S3, w4) => grd (kin S3 a1 = some (3, alen S3 a1)) <| grd (vp_in (J 0) (alen S3 a1)) <| lt (sl w4 a1 0 (Int32.toInt64 x2)) fun w8 => some (((J 0), S3, w8))
theorem ok_lw_dropSegment (N : Nat) (a0 : Nat) (a1 : Nat) (S : shp) (v : vl) : SimK B_lw_dropSegment 0 (entB (bN B_lw_dropSegment) [.ref a0, .ref a1]) [] S v (F_lw_dropSegment N a0 a1 S v) (ρgi) := by
  show SimK B_lw_dropSegment 0 [some (.ref a0), some (.ref a1), none] [] S v (F_lw_dropSegment N a0 a1 S v) _
  unfold F_lw_dropSegment
  refine sim_seg [(.aload_n 1, 0, 0, 0), (.iconst 0, 0, 0, 0), (.aload_n 0, 0, 0, 0)] [] (q := 3) (L' := [some (.ref a0), some (.ref a1), none]) (st' := [.ref a0, .int (J 0), .ref a1]) (v1 := v) (by decide +kernel) rfl trivial ?_
  refine sim_grd fun h1 => ?_
  refine sim_catch1 (kA := 2) (x := ⟨0, 8, 11, 84⟩) (ok_gc_dropSegment N a0 S v) (cf_V (idx := 101) (ci := 5) [] m_gc_dropSegment (by decide) ⟨by decide, by decide⟩ (List.mem_of_getElem? (i := 1539) (by decide +kernel)) rfl (Nat.le_of_ble_eq_true rfl) h1 (by decide +kernel) (Nat.le_of_ble_eq_true rfl) rfl) (fun _ => rfl) rfl (by decide) (by decide) (List.mem_of_getElem? (i := 1469) (by decide +kernel)) (by decide) ?_ (fun b _ => ?_)
  · intro r10
    refine sim_lt (x := skip S 6) ?_
    generalize skip S 6 = S9
    show SimK B_lw_dropSegment 11 [some (.ref a0), some (.ref a1), none] [.ref r10] S9 v _ _
    refine sim_seg [(.astore_n 2, 0, 0, 0)] [] (q := 12) (L' := [some (.ref a0), some (.ref a1), some (.ref r10)]) (st' := []) (v1 := v) (by decide +kernel) rfl trivial ?_
    refine sim_seg [(.iconst 1, 0, 0, 1)] [] (q := 13) (L' := [some (.ref a0), some (.ref a1), some (.ref r10)]) (st' := [.int (J 1)]) (v1 := v) (by decide +kernel) rfl trivial ?_
    exact sim_iret (by decide +kernel) rfl rfl rfl
  obtain ⟨x2, S3, w4⟩ := b
  refine ⟨some (.int x2), rfl, ?_⟩
  show SimK B_lw_dropSegment 6 [some (.ref a0), some (.ref a1), none] [.int x2, .int (J 0), .ref a1] S3 w4 _ _
  refine sim_grd fun h6 => ?_
  refine sim_grd fun h7 => ?_
  refine sim_seg [(.i2l, 0, 0, 0), (.lastore, 0, 0, 0), (.goto 6, 0, 0, 0), (.iconst 0, 0, 0, 0)] [] (q := 15) (L' := [some (.ref a0), some (.ref a1), none]) (st' := [.int (J 0)]) (v1 := (sl w4 a1 0 (Int32.toInt64 x2))) (by decide +kernel) rfl ⟨⟨h6, h7⟩, trivial⟩ ?_
  refine sim_lt (x := (sl w4 a1 0 (Int32.toInt64 x2))) ?_
  generalize (sl w4 a1 0 (Int32.toInt64 x2)) = w8
  exact sim_iret (by decide +kernel) rfl rfl rfl
def B_lw_edgesIn : bd := (⟨"GateCounterLaw", "edgesIn", "(LGateCounter;I[J)I"⟩, method_8_code, 4, (some .int), [(0, 9, 12, 13)], 15, 9)
theorem m_lw_edgesIn : mX B_lw_edgesIn 3 := ⟨⟨⟨by decide +kernel, Or.inr (by decide +kernel)⟩, rfl, (List.mem_of_getElem? (i := 1327) (by decide +kernel)), by decide +kernel, (List.mem_of_getElem? (i := 94) (by decide +kernel)), ⟨by decide, by decide⟩, by decide⟩, List.cons_ne_nil _ _, (by unfold nar; decide +kernel), (List.mem_of_getElem? (i := 1326) (by decide +kernel))⟩
noncomputable def F_lw_edgesIn (N : Nat) (a0 : Nat) (b1 : Int32) (a2 : Nat) (S : shp) (v : vl) : Option (Int32 × shp × vl) :=
  grd (kin S a0 = some (0, 5)) <| bx (F_gc_edgesIn N a0 b1 S v) (fun k0 => if k0 = 0 then lt (skip S 6) fun S9 => some (((J 1), S9, v)) else none) fun (x2, S3, w4) => grd (kin S3 a2 = some (3, alen S3 a2)) <| grd (vp_in (J 0) (alen S3 a2)) <| lt (sl w4 a2 0 (Int32.toInt64 x2)) fun w8 => some (((J 0), S3, w8))
theorem ok_lw_edgesIn (N : Nat) (a0 : Nat) (b1 : Int32) (a2 : Nat) (S : shp) (v : vl) : SimK B_lw_edgesIn 0 (entB (bN B_lw_edgesIn) [.ref a0, .int b1, .ref a2]) [] S v (F_lw_edgesIn N a0 b1 a2 S v) (ρgi) := by
  show SimK B_lw_edgesIn 0 [some (.ref a0), some (.int b1), some (.ref a2), none] [] S v (F_lw_edgesIn N a0 b1 a2 S v) _
  unfold F_lw_edgesIn
  refine sim_seg [(.aload_n 2, 0, 0, 0), (.iconst 0, 0, 0, 0), (.aload_n 0, 0, 0, 0), (.iload_n 1, 0, 0, 0)] [] (q := 4) (L' := [some (.ref a0), some (.int b1), some (.ref a2), none]) (st' := [.int b1, .ref a0, .int (J 0), .ref a2]) (v1 := v) (by decide +kernel) rfl trivial ?_
  refine sim_grd fun h1 => ?_
  refine sim_catch1 (kA := 0) (x := ⟨0, 9, 12, 13⟩) (ok_gc_edgesIn N a0 b1 S v) (cf_V (idx := 30) (ci := 5) [.int b1] m_gc_edgesIn (by decide) ⟨by decide, by decide⟩ (List.mem_of_getElem? (i := 1328) (by decide +kernel)) rfl (Nat.le_of_ble_eq_true rfl) h1 (by decide +kernel) (Nat.le_of_ble_eq_true rfl) rfl) (fun _ => rfl) rfl (by decide) (by decide) (List.mem_of_getElem? (i := 1267) (by decide +kernel)) (by decide) ?_ (fun b _ => ?_)
  · intro r10
    refine sim_lt (x := skip S 6) ?_
    generalize skip S 6 = S9
    show SimK B_lw_edgesIn 12 [some (.ref a0), some (.int b1), some (.ref a2), none] [.ref r10] S9 v _ _
    refine sim_seg [(.astore_n 3, 0, 0, 0)] [] (q := 13) (L' := [some (.ref a0), some (.int b1), some (.ref a2), some (.ref r10)]) (st' := []) (v1 := v) (by decide +kernel) rfl trivial ?_
    refine sim_seg [(.iconst 1, 0, 0, 1)] [] (q := 14) (L' := [some (.ref a0), some (.int b1), some (.ref a2), some (.ref r10)]) (st' := [.int (J 1)]) (v1 := v) (by decide +kernel) rfl trivial ?_
    exact sim_iret (by decide +kernel) rfl rfl rfl
  obtain ⟨x2, S3, w4⟩ := b
  refine ⟨some (.int x2), rfl, ?_⟩
  show SimK B_lw_edgesIn 7 [some (.ref a0), some (.int b1), some (.ref a2), none] [.int x2, .int (J 0), .ref a2] S3 w4 _ _
  refine sim_grd fun h6 => ?_
  refine sim_grd fun h7 => ?_
  refine sim_seg [(.i2l, 0, 0, 0), (.lastore, 0, 0, 0), (.goto 6, 0, 0, 0), (.iconst 0, 0, 0, 0)] [] (q := 16) (L' := [some (.ref a0), some (.int b1), some (.ref a2), none]) (st' := [.int (J 0)]) (v1 := (sl w4 a2 0 (Int32.toInt64 x2))) (by decide +kernel) rfl ⟨⟨h6, h7⟩, trivial⟩ ?_
  refine sim_lt (x := (sl w4 a2 0 (Int32.toInt64 x2))) ?_
  generalize (sl w4 a2 0 (Int32.toInt64 x2)) = w8
  exact sim_iret (by decide +kernel) rfl rfl rfl
def B_lw_gateFor : bd := (⟨"GateCounterLaw", "gateFor", "(LGateCounter;I[J)I"⟩, method_20_code, 4, (some .int), [(0, 9, 12, 13)], 15, 9)
theorem m_lw_gateFor : mX B_lw_gateFor 3 := ⟨⟨⟨by decide +kernel, Or.inr (by decide +kernel)⟩, rfl, (List.mem_of_getElem? (i := 1432) (by decide +kernel)), by decide +kernel, (List.mem_of_getElem? (i := 94) (by decide +kernel)), ⟨by decide, by decide⟩, by decide⟩, List.cons_ne_nil _ _, (by unfold nar; decide +kernel), (List.mem_of_getElem? (i := 1431) (by decide +kernel))⟩
noncomputable def F_lw_gateFor (N : Nat) (a0 : Nat) (b1 : Int32) (a2 : Nat) (S : shp) (v : vl) : Option (Int32 × shp × vl) :=
  grd (kin S a0 = some (0, 5)) <| bx (F_gc_gateFor N a0 b1 S v) (fun k0 => if k0 = 0 then lt (skip S 6) fun S9 => some (((J 1), S9, v)) else none) fun (x2, S3, w4) => grd (kin S3 a2 = some (3, alen S3 a2)) <| grd (vp_in (J 0) (alen S3 a2)) <| lt (sl w4 a2 0 (Int32.toInt64 x2)) fun w8 => some (((J 0), S3, w8))
theorem ok_lw_gateFor (N : Nat) (a0 : Nat) (b1 : Int32) (a2 : Nat) (S : shp) (v : vl) : SimK B_lw_gateFor 0 (entB (bN B_lw_gateFor) [.ref a0, .int b1, .ref a2]) [] S v (F_lw_gateFor N a0 b1 a2 S v) (ρgi) := by
  show SimK B_lw_gateFor 0 [some (.ref a0), some (.int b1), some (.ref a2), none] [] S v (F_lw_gateFor N a0 b1 a2 S v) _
  unfold F_lw_gateFor
  refine sim_seg [(.aload_n 2, 0, 0, 0), (.iconst 0, 0, 0, 0), (.aload_n 0, 0, 0, 0), (.iload_n 1, 0, 0, 0)] [] (q := 4) (L' := [some (.ref a0), some (.int b1), some (.ref a2), none]) (st' := [.int b1, .ref a0, .int (J 0), .ref a2]) (v1 := v) (by decide +kernel) rfl trivial ?_
  refine sim_grd fun h1 => ?_
  refine sim_catch1 (kA := 0) (x := ⟨0, 9, 12, 13⟩) (ok_gc_gateFor N a0 b1 S v) (cf_V (idx := 66) (ci := 5) [.int b1] m_gc_gateFor (by decide) ⟨by decide, by decide⟩ (List.mem_of_getElem? (i := 1433) (by decide +kernel)) rfl (Nat.le_of_ble_eq_true rfl) h1 (by decide +kernel) (Nat.le_of_ble_eq_true rfl) rfl) (fun _ => rfl) rfl (by decide) (by decide) (List.mem_of_getElem? (i := 1267) (by decide +kernel)) (by decide) ?_ (fun b _ => ?_)
  · intro r10
    refine sim_lt (x := skip S 6) ?_
    generalize skip S 6 = S9
    show SimK B_lw_gateFor 12 [some (.ref a0), some (.int b1), some (.ref a2), none] [.ref r10] S9 v _ _
    refine sim_seg [(.astore_n 3, 0, 0, 0)] [] (q := 13) (L' := [some (.ref a0), some (.int b1), some (.ref a2), some (.ref r10)]) (st' := []) (v1 := v) (by decide +kernel) rfl trivial ?_
    refine sim_seg [(.iconst 1, 0, 0, 1)] [] (q := 14) (L' := [some (.ref a0), some (.int b1), some (.ref a2), some (.ref r10)]) (st' := [.int (J 1)]) (v1 := v) (by decide +kernel) rfl trivial ?_
    exact sim_iret (by decide +kernel) rfl rfl rfl
  obtain ⟨x2, S3, w4⟩ := b
  refine ⟨some (.int x2), rfl, ?_⟩
  show SimK B_lw_gateFor 7 [some (.ref a0), some (.int b1), some (.ref a2), none] [.int x2, .int (J 0), .ref a2] S3 w4 _ _
  refine sim_grd fun h6 => ?_
  refine sim_grd fun h7 => ?_
  refine sim_seg [(.i2l, 0, 0, 0), (.lastore, 0, 0, 0), (.goto 6, 0, 0, 0), (.iconst 0, 0, 0, 0)] [] (q := 16) (L' := [some (.ref a0), some (.int b1), some (.ref a2), none]) (st' := [.int (J 0)]) (v1 := (sl w4 a2 0 (Int32.toInt64 x2))) (by decide +kernel) rfl ⟨⟨h6, h7⟩, trivial⟩ ?_
  refine sim_lt (x := (sl w4 a2 0 (Int32.toInt64 x2))) ?_
  generalize (sl w4 a2 0 (Int32.toInt64 x2)) = w8
  exact sim_iret (by decide +kernel) rfl rfl rfl
def B_lw_gateNear : bd := (⟨"GateCounterLaw", "gateNear", "(LGateCounter;I[J)I"⟩, method_22_code, 4, (some .int), [(0, 9, 12, 13)], 15, 9)
theorem m_lw_gateNear : mX B_lw_gateNear 3 := ⟨⟨⟨by decide +kernel, Or.inr (by decide +kernel)⟩, rfl, (List.mem_of_getElem? (i := 1446) (by decide +kernel)), by decide +kernel, (List.mem_of_getElem? (i := 94) (by decide +kernel)), ⟨by decide, by decide⟩, by decide⟩, List.cons_ne_nil _ _, (by unfold nar; decide +kernel), (List.mem_of_getElem? (i := 1445) (by decide +kernel))⟩
noncomputable def F_lw_gateNear (N : Nat) (a0 : Nat) (b1 : Int32) (a2 : Nat) (S : shp) (v : vl) : Option (Int32 × shp × vl) :=
  grd (kin S a0 = some (0, 5)) <| bx (F_gc_gateNear N a0 b1 S v) (fun k0 => if k0 = 0 then lt (skip S 6) fun S9 => some (((J 1), S9, v)) else none) fun (x2, S3, w4) => grd (kin S3 a2 = some (3, alen S3 a2)) <| grd (vp_in (J 0) (alen S3 a2)) <| lt (sl w4 a2 0 (Int32.toInt64 x2)) fun w8 => some (((J 0), S3, w8))
theorem ok_lw_gateNear (N : Nat) (a0 : Nat) (b1 : Int32) (a2 : Nat) (S : shp) (v : vl) : SimK B_lw_gateNear 0 (entB (bN B_lw_gateNear) [.ref a0, .int b1, .ref a2]) [] S v (F_lw_gateNear N a0 b1 a2 S v) (ρgi) := by
  show SimK B_lw_gateNear 0 [some (.ref a0), some (.int b1), some (.ref a2), none] [] S v (F_lw_gateNear N a0 b1 a2 S v) _
  unfold F_lw_gateNear
  refine sim_seg [(.aload_n 2, 0, 0, 0), (.iconst 0, 0, 0, 0), (.aload_n 0, 0, 0, 0), (.iload_n 1, 0, 0, 0)] [] (q := 4) (L' := [some (.ref a0), some (.int b1), some (.ref a2), none]) (st' := [.int b1, .ref a0, .int (J 0), .ref a2]) (v1 := v) (by decide +kernel) rfl trivial ?_
  refine sim_grd fun h1 => ?_
  refine sim_catch1 (kA := 0) (x := ⟨0, 9, 12, 13⟩) (ok_gc_gateNear N a0 b1 S v) (cf_V (idx := 72) (ci := 5) [.int b1] m_gc_gateNear (by decide) ⟨by decide, by decide⟩ (List.mem_of_getElem? (i := 1447) (by decide +kernel)) rfl (Nat.le_of_ble_eq_true rfl) h1 (by decide +kernel) (Nat.le_of_ble_eq_true rfl) rfl) (fun _ => rfl) rfl (by decide) (by decide) (List.mem_of_getElem? (i := 1267) (by decide +kernel)) (by decide) ?_ (fun b _ => ?_)
  · intro r10
    refine sim_lt (x := skip S 6) ?_
    generalize skip S 6 = S9
    show SimK B_lw_gateNear 12 [some (.ref a0), some (.int b1), some (.ref a2), none] [.ref r10] S9 v _ _
    refine sim_seg [(.astore_n 3, 0, 0, 0)] [] (q := 13) (L' := [some (.ref a0), some (.int b1), some (.ref a2), some (.ref r10)]) (st' := []) (v1 := v) (by decide +kernel) rfl trivial ?_
    refine sim_seg [(.iconst 1, 0, 0, 1)] [] (q := 14) (L' := [some (.ref a0), some (.int b1), some (.ref a2), some (.ref r10)]) (st' := [.int (J 1)]) (v1 := v) (by decide +kernel) rfl trivial ?_
    exact sim_iret (by decide +kernel) rfl rfl rfl
  obtain ⟨x2, S3, w4⟩ := b
  refine ⟨some (.int x2), rfl, ?_⟩
  show SimK B_lw_gateNear 7 [some (.ref a0), some (.int b1), some (.ref a2), none] [.int x2, .int (J 0), .ref a2] S3 w4 _ _
  refine sim_grd fun h6 => ?_
  refine sim_grd fun h7 => ?_
  refine sim_seg [(.i2l, 0, 0, 0), (.lastore, 0, 0, 0), (.goto 6, 0, 0, 0), (.iconst 0, 0, 0, 0)] [] (q := 16) (L' := [some (.ref a0), some (.int b1), some (.ref a2), none]) (st' := [.int (J 0)]) (v1 := (sl w4 a2 0 (Int32.toInt64 x2))) (by decide +kernel) rfl ⟨⟨h6, h7⟩, trivial⟩ ?_
  refine sim_lt (x := (sl w4 a2 0 (Int32.toInt64 x2))) ?_
  generalize (sl w4 a2 0 (Int32.toInt64 x2)) = w8
  exact sim_iret (by decide +kernel) rfl rfl rfl
def B_lw_longestSilence : bd := (⟨"GateCounterLaw", "longestSilence", "(LGateCounter;I[J)I"⟩, method_19_code, 4, (some .int), [(0, 9, 12, 13)], 15, 9)
theorem m_lw_longestSilence : mX B_lw_longestSilence 3 := ⟨⟨⟨by decide +kernel, Or.inr (by decide +kernel)⟩, rfl, (List.mem_of_getElem? (i := 1419) (by decide +kernel)), by decide +kernel, (List.mem_of_getElem? (i := 94) (by decide +kernel)), ⟨by decide, by decide⟩, by decide⟩, List.cons_ne_nil _ _, (by unfold nar; decide +kernel), (List.mem_of_getElem? (i := 1418) (by decide +kernel))⟩
noncomputable def F_lw_longestSilence (N : Nat) (a0 : Nat) (b1 : Int32) (a2 : Nat) (S : shp) (v : vl) : Option (Int32 × shp × vl) :=
  grd (kin S a0 = some (0, 5)) <| bx (F_gc_longestSilence N a0 b1 S v) (fun k0 => if k0 = 0 then lt (skip S 6) fun S6 => some (((J 1), S6, v)) else none) fun x2 => grd (kin S a2 = some (3, alen S a2)) <| grd (vp_in (J 0) (alen S a2)) <| lt (sl v a2 0 (Int32.toInt64 x2)) fun w5 => some (((J 0), S, w5))
theorem ok_lw_longestSilence (N : Nat) (a0 : Nat) (b1 : Int32) (a2 : Nat) (S : shp) (v : vl) : SimK B_lw_longestSilence 0 (entB (bN B_lw_longestSilence) [.ref a0, .int b1, .ref a2]) [] S v (F_lw_longestSilence N a0 b1 a2 S v) (ρgi) := by
  show SimK B_lw_longestSilence 0 [some (.ref a0), some (.int b1), some (.ref a2), none] [] S v (F_lw_longestSilence N a0 b1 a2 S v) _
  unfold F_lw_longestSilence
  refine sim_seg [(.aload_n 2, 0, 0, 0), (.iconst 0, 0, 0, 0), (.aload_n 0, 0, 0, 0), (.iload_n 1, 0, 0, 0)] [] (q := 4) (L' := [some (.ref a0), some (.int b1), some (.ref a2), none]) (st' := [.int b1, .ref a0, .int (J 0), .ref a2]) (v1 := v) (by decide +kernel) rfl trivial ?_
  refine sim_grd fun h1 => ?_
  refine sim_catch1 (kA := 0) (x := ⟨0, 9, 12, 13⟩) (ok_gc_longestSilence N a0 b1 S v) (cf_V (idx := 63) (ci := 5) [.int b1] m_gc_longestSilence (by decide) ⟨by decide, by decide⟩ (List.mem_of_getElem? (i := 1420) (by decide +kernel)) rfl (Nat.le_of_ble_eq_true rfl) h1 (by decide +kernel) (Nat.le_of_ble_eq_true rfl) rfl) (fun _ => rfl) rfl (by decide) (by decide) (List.mem_of_getElem? (i := 1267) (by decide +kernel)) (by decide) ?_ (fun b _ => ?_)
  · intro r7
    refine sim_lt (x := skip S 6) ?_
    generalize skip S 6 = S6
    show SimK B_lw_longestSilence 12 [some (.ref a0), some (.int b1), some (.ref a2), none] [.ref r7] S6 v _ _
    refine sim_seg [(.astore_n 3, 0, 0, 0)] [] (q := 13) (L' := [some (.ref a0), some (.int b1), some (.ref a2), some (.ref r7)]) (st' := []) (v1 := v) (by decide +kernel) rfl trivial ?_
    refine sim_seg [(.iconst 1, 0, 0, 1)] [] (q := 14) (L' := [some (.ref a0), some (.int b1), some (.ref a2), some (.ref r7)]) (st' := [.int (J 1)]) (v1 := v) (by decide +kernel) rfl trivial ?_
    exact sim_iret (by decide +kernel) rfl rfl rfl
  generalize b = x2
  refine ⟨some (.int x2), rfl, ?_⟩
  show SimK B_lw_longestSilence 7 [some (.ref a0), some (.int b1), some (.ref a2), none] [.int x2, .int (J 0), .ref a2] S v _ _
  refine sim_grd fun h3 => ?_
  refine sim_grd fun h4 => ?_
  refine sim_seg [(.i2l, 0, 0, 0), (.lastore, 0, 0, 0), (.goto 6, 0, 0, 0), (.iconst 0, 0, 0, 0)] [] (q := 16) (L' := [some (.ref a0), some (.int b1), some (.ref a2), none]) (st' := [.int (J 0)]) (v1 := (sl v a2 0 (Int32.toInt64 x2))) (by decide +kernel) rfl ⟨⟨h3, h4⟩, trivial⟩ ?_
  refine sim_lt (x := (sl v a2 0 (Int32.toInt64 x2))) ?_
  generalize (sl v a2 0 (Int32.toInt64 x2)) = w5
  exact sim_iret (by decide +kernel) rfl rfl rfl
def B_lw_measurement : bd := (⟨"GateCounterLaw", "measurement", "(LGateCounter;II[J)I"⟩, method_7_code, 5, (some .int), [(0, 10, 13, 25), (0, 10, 17, 13)], 15, 9)
theorem m_lw_measurement : mX B_lw_measurement 4 := ⟨⟨⟨by decide +kernel, Or.inr (by decide +kernel)⟩, rfl, (List.mem_of_getElem? (i := 1311) (by decide +kernel)), by decide +kernel, (List.mem_of_getElem? (i := 94) (by decide +kernel)), ⟨by decide, by decide⟩, by decide⟩, List.cons_ne_nil _ _, (by unfold nar; decide +kernel), (List.mem_of_getElem? (i := 1310) (by decide +kernel))⟩
noncomputable def F_lw_measurement (N : Nat) (a0 : Nat) (b1 : Int32) (b2 : Int32) (a3 : Nat) (S : shp) (v : vl) : Option (Int32 × shp × vl) :=
  grd (kin S a0 = some (0, 5)) <| bx (F_gc_measurement N a0 b1 b2 S v) (fun k0 => if k0 = 1 then lt (skip S 6) fun S6 => some (((J 1), S6, v)) else if k0 = 0 then lt (skip S 6) fun S8 => some (((J 2), S8, v)) else none) fun x2 => grd (kin S a3 = some (3, alen S a3)) <| grd (vp_in (J 0) (alen S a3)) <| lt (sl v a3 0 (Int32.toInt64 x2)) fun w5 => some (((J 0), S, w5))
theorem ok_lw_measurement (N : Nat) (a0 : Nat) (b1 : Int32) (b2 : Int32) (a3 : Nat) (S : shp) (v : vl) : SimK B_lw_measurement 0 (entB (bN B_lw_measurement) [.ref a0, .int b1, .int b2, .ref a3]) [] S v (F_lw_measurement N a0 b1 b2 a3 S v) (ρgi) := by
  show SimK B_lw_measurement 0 [some (.ref a0), some (.int b1), some (.int b2), some (.ref a3), none] [] S v (F_lw_measurement N a0 b1 b2 a3 S v) _
  unfold F_lw_measurement
  refine sim_seg [(.aload_n 3, 0, 0, 0), (.iconst 0, 0, 0, 0), (.aload_n 0, 0, 0, 0), (.iload_n 1, 0, 0, 0), (.iload_n 2, 0, 0, 0)] [] (q := 5) (L' := [some (.ref a0), some (.int b1), some (.int b2), some (.ref a3), none]) (st' := [.int b2, .int b1, .ref a0, .int (J 0), .ref a3]) (v1 := v) (by decide +kernel) rfl trivial ?_
  refine sim_grd fun h1 => ?_
  refine sim_catch2 (kA := 1) (kB := 0) (x := ⟨0, 10, 13, 25⟩) (y := ⟨0, 10, 17, 13⟩) (ok_gc_measurement N a0 b1 b2 S v) (cf_V (idx := 27) (ci := 5) [.int b1, .int b2] m_gc_measurement (by decide) ⟨by decide, by decide⟩ (List.mem_of_getElem? (i := 1312) (by decide +kernel)) rfl (Nat.le_of_ble_eq_true rfl) h1 (by decide +kernel) (Nat.le_of_ble_eq_true rfl) rfl) (fun _ => rfl) rfl ⟨by decide, by decide⟩ ⟨by decide, by decide⟩ (List.mem_of_getElem? (i := 1286) (by decide +kernel)) (List.mem_of_getElem? (i := 1267) (by decide +kernel)) (by decide) ?_ ?_ (fun b _ => ?_)
  · intro r7
    refine sim_lt (x := skip S 6) ?_
    generalize skip S 6 = S6
    show SimK B_lw_measurement 13 [some (.ref a0), some (.int b1), some (.int b2), some (.ref a3), none] [.ref r7] S6 v _ _
    refine sim_seg [(.astore 4, 0, 0, 0)] [] (q := 15) (L' := [some (.ref a0), some (.int b1), some (.int b2), some (.ref a3), some (.ref r7)]) (st' := []) (v1 := v) (by decide +kernel) rfl trivial ?_
    refine sim_seg [(.iconst 1, 0, 0, 1)] [] (q := 16) (L' := [some (.ref a0), some (.int b1), some (.int b2), some (.ref a3), some (.ref r7)]) (st' := [.int (J 1)]) (v1 := v) (by decide +kernel) rfl trivial ?_
    exact sim_iret (by decide +kernel) rfl rfl rfl
  · intro r9
    refine sim_lt (x := skip S 6) ?_
    generalize skip S 6 = S8
    show SimK B_lw_measurement 17 [some (.ref a0), some (.int b1), some (.int b2), some (.ref a3), none] [.ref r9] S8 v _ _
    refine sim_seg [(.astore 4, 0, 0, 0)] [] (q := 19) (L' := [some (.ref a0), some (.int b1), some (.int b2), some (.ref a3), some (.ref r9)]) (st' := []) (v1 := v) (by decide +kernel) rfl trivial ?_
    refine sim_seg [(.iconst 2, 0, 0, 2)] [] (q := 20) (L' := [some (.ref a0), some (.int b1), some (.int b2), some (.ref a3), some (.ref r9)]) (st' := [.int (J 2)]) (v1 := v) (by decide +kernel) rfl trivial ?_
    exact sim_iret (by decide +kernel) rfl rfl rfl
  generalize b = x2
  refine ⟨some (.int x2), rfl, ?_⟩
  show SimK B_lw_measurement 8 [some (.ref a0), some (.int b1), some (.int b2), some (.ref a3), none] [.int x2, .int (J 0), .ref a3] S v _ _
  refine sim_grd fun h3 => ?_
  refine sim_grd fun h4 => ?_
  refine sim_seg [(.i2l, 0, 0, 0), (.lastore, 0, 0, 0), (.goto 11, 0, 0, 0), (.iconst 0, 0, 0, 0)] [] (q := 22) (L' := [some (.ref a0), some (.int b1), some (.int b2), some (.ref a3), none]) (st' := [.int (J 0)]) (v1 := (sl v a3 0 (Int32.toInt64 x2))) (by decide +kernel) rfl ⟨⟨h3, h4⟩, trivial⟩ ?_
  refine sim_lt (x := (sl v a3 0 (Int32.toInt64 x2))) ?_
  generalize (sl v a3 0 (Int32.toInt64 x2)) = w5
  exact sim_iret (by decide +kernel) rfl rfl rfl
def B_lw_outputsIn : bd := (⟨"GateCounterLaw", "outputsIn", "(LGateCounter;I[J)I"⟩, method_9_code, 4, (some .int), [(0, 9, 12, 13)], 15, 9)
theorem m_lw_outputsIn : mX B_lw_outputsIn 3 := ⟨⟨⟨by decide +kernel, Or.inr (by decide +kernel)⟩, rfl, (List.mem_of_getElem? (i := 1339) (by decide +kernel)), by decide +kernel, (List.mem_of_getElem? (i := 94) (by decide +kernel)), ⟨by decide, by decide⟩, by decide⟩, List.cons_ne_nil _ _, (by unfold nar; decide +kernel), (List.mem_of_getElem? (i := 1338) (by decide +kernel))⟩
noncomputable def F_lw_outputsIn (N : Nat) (a0 : Nat) (b1 : Int32) (a2 : Nat) (S : shp) (v : vl) : Option (Int32 × shp × vl) :=
  grd (kin S a0 = some (0, 5)) <| bx (F_gc_outputsIn N a0 b1 S v) (fun k0 => if k0 = 0 then lt (skip S 6) fun S9 => some (((J 1), S9, v)) else none) fun (x2, S3, w4) => grd (kin S3 a2 = some (3, alen S3 a2)) <| grd (vp_in (J 0) (alen S3 a2)) <| lt (sl w4 a2 0 (Int32.toInt64 x2)) fun w8 => some (((J 0), S3, w8))
theorem ok_lw_outputsIn (N : Nat) (a0 : Nat) (b1 : Int32) (a2 : Nat) (S : shp) (v : vl) : SimK B_lw_outputsIn 0 (entB (bN B_lw_outputsIn) [.ref a0, .int b1, .ref a2]) [] S v (F_lw_outputsIn N a0 b1 a2 S v) (ρgi) := by
  show SimK B_lw_outputsIn 0 [some (.ref a0), some (.int b1), some (.ref a2), none] [] S v (F_lw_outputsIn N a0 b1 a2 S v) _
  unfold F_lw_outputsIn
  refine sim_seg [(.aload_n 2, 0, 0, 0), (.iconst 0, 0, 0, 0), (.aload_n 0, 0, 0, 0), (.iload_n 1, 0, 0, 0)] [] (q := 4) (L' := [some (.ref a0), some (.int b1), some (.ref a2), none]) (st' := [.int b1, .ref a0, .int (J 0), .ref a2]) (v1 := v) (by decide +kernel) rfl trivial ?_
  refine sim_grd fun h1 => ?_
  refine sim_catch1 (kA := 0) (x := ⟨0, 9, 12, 13⟩) (ok_gc_outputsIn N a0 b1 S v) (cf_V (idx := 33) (ci := 5) [.int b1] m_gc_outputsIn (by decide) ⟨by decide, by decide⟩ (List.mem_of_getElem? (i := 1340) (by decide +kernel)) rfl (Nat.le_of_ble_eq_true rfl) h1 (by decide +kernel) (Nat.le_of_ble_eq_true rfl) rfl) (fun _ => rfl) rfl (by decide) (by decide) (List.mem_of_getElem? (i := 1267) (by decide +kernel)) (by decide) ?_ (fun b _ => ?_)
  · intro r10
    refine sim_lt (x := skip S 6) ?_
    generalize skip S 6 = S9
    show SimK B_lw_outputsIn 12 [some (.ref a0), some (.int b1), some (.ref a2), none] [.ref r10] S9 v _ _
    refine sim_seg [(.astore_n 3, 0, 0, 0)] [] (q := 13) (L' := [some (.ref a0), some (.int b1), some (.ref a2), some (.ref r10)]) (st' := []) (v1 := v) (by decide +kernel) rfl trivial ?_
    refine sim_seg [(.iconst 1, 0, 0, 1)] [] (q := 14) (L' := [some (.ref a0), some (.int b1), some (.ref a2), some (.ref r10)]) (st' := [.int (J 1)]) (v1 := v) (by decide +kernel) rfl trivial ?_
    exact sim_iret (by decide +kernel) rfl rfl rfl
  obtain ⟨x2, S3, w4⟩ := b
  refine ⟨some (.int x2), rfl, ?_⟩
  show SimK B_lw_outputsIn 7 [some (.ref a0), some (.int b1), some (.ref a2), none] [.int x2, .int (J 0), .ref a2] S3 w4 _ _
  refine sim_grd fun h6 => ?_
  refine sim_grd fun h7 => ?_
  refine sim_seg [(.i2l, 0, 0, 0), (.lastore, 0, 0, 0), (.goto 6, 0, 0, 0), (.iconst 0, 0, 0, 0)] [] (q := 16) (L' := [some (.ref a0), some (.int b1), some (.ref a2), none]) (st' := [.int (J 0)]) (v1 := (sl w4 a2 0 (Int32.toInt64 x2))) (by decide +kernel) rfl ⟨⟨h6, h7⟩, trivial⟩ ?_
  refine sim_lt (x := (sl w4 a2 0 (Int32.toInt64 x2))) ?_
  generalize (sl w4 a2 0 (Int32.toInt64 x2)) = w8
  exact sim_iret (by decide +kernel) rfl rfl rfl
def B_lw_periodsFor : bd := (⟨"GateCounterLaw", "periodsFor", "(LGateCounter;I[J)I"⟩, method_21_code, 4, (some .int), [(0, 9, 12, 13)], 15, 9)
theorem m_lw_periodsFor : mX B_lw_periodsFor 3 := ⟨⟨⟨by decide +kernel, Or.inr (by decide +kernel)⟩, rfl, (List.mem_of_getElem? (i := 1439) (by decide +kernel)), by decide +kernel, (List.mem_of_getElem? (i := 94) (by decide +kernel)), ⟨by decide, by decide⟩, by decide⟩, List.cons_ne_nil _ _, (by unfold nar; decide +kernel), (List.mem_of_getElem? (i := 1438) (by decide +kernel))⟩
noncomputable def F_lw_periodsFor (N : Nat) (a0 : Nat) (b1 : Int32) (a2 : Nat) (S : shp) (v : vl) : Option (Int32 × shp × vl) :=
  grd (kin S a0 = some (0, 5)) <| bx (F_gc_periodsFor N a0 b1 S v) (fun k0 => if k0 = 0 then lt (skip S 6) fun S9 => some (((J 1), S9, v)) else none) fun (x2, S3, w4) => grd (kin S3 a2 = some (3, alen S3 a2)) <| grd (vp_in (J 0) (alen S3 a2)) <| lt (sl w4 a2 0 (Int32.toInt64 x2)) fun w8 => some (((J 0), S3, w8))
theorem ok_lw_periodsFor (N : Nat) (a0 : Nat) (b1 : Int32) (a2 : Nat) (S : shp) (v : vl) : SimK B_lw_periodsFor 0 (entB (bN B_lw_periodsFor) [.ref a0, .int b1, .ref a2]) [] S v (F_lw_periodsFor N a0 b1 a2 S v) (ρgi) := by
  show SimK B_lw_periodsFor 0 [some (.ref a0), some (.int b1), some (.ref a2), none] [] S v (F_lw_periodsFor N a0 b1 a2 S v) _
  unfold F_lw_periodsFor
  refine sim_seg [(.aload_n 2, 0, 0, 0), (.iconst 0, 0, 0, 0), (.aload_n 0, 0, 0, 0), (.iload_n 1, 0, 0, 0)] [] (q := 4) (L' := [some (.ref a0), some (.int b1), some (.ref a2), none]) (st' := [.int b1, .ref a0, .int (J 0), .ref a2]) (v1 := v) (by decide +kernel) rfl trivial ?_
  refine sim_grd fun h1 => ?_
  refine sim_catch1 (kA := 0) (x := ⟨0, 9, 12, 13⟩) (ok_gc_periodsFor N a0 b1 S v) (cf_V (idx := 69) (ci := 5) [.int b1] m_gc_periodsFor (by decide) ⟨by decide, by decide⟩ (List.mem_of_getElem? (i := 1440) (by decide +kernel)) rfl (Nat.le_of_ble_eq_true rfl) h1 (by decide +kernel) (Nat.le_of_ble_eq_true rfl) rfl) (fun _ => rfl) rfl (by decide) (by decide) (List.mem_of_getElem? (i := 1267) (by decide +kernel)) (by decide) ?_ (fun b _ => ?_)
  · intro r10
    refine sim_lt (x := skip S 6) ?_
    generalize skip S 6 = S9
    show SimK B_lw_periodsFor 12 [some (.ref a0), some (.int b1), some (.ref a2), none] [.ref r10] S9 v _ _
    refine sim_seg [(.astore_n 3, 0, 0, 0)] [] (q := 13) (L' := [some (.ref a0), some (.int b1), some (.ref a2), some (.ref r10)]) (st' := []) (v1 := v) (by decide +kernel) rfl trivial ?_
    refine sim_seg [(.iconst 1, 0, 0, 1)] [] (q := 14) (L' := [some (.ref a0), some (.int b1), some (.ref a2), some (.ref r10)]) (st' := [.int (J 1)]) (v1 := v) (by decide +kernel) rfl trivial ?_
    exact sim_iret (by decide +kernel) rfl rfl rfl
  obtain ⟨x2, S3, w4⟩ := b
  refine ⟨some (.int x2), rfl, ?_⟩
  show SimK B_lw_periodsFor 7 [some (.ref a0), some (.int b1), some (.ref a2), none] [.int x2, .int (J 0), .ref a2] S3 w4 _ _
  refine sim_grd fun h6 => ?_
  refine sim_grd fun h7 => ?_
  refine sim_seg [(.i2l, 0, 0, 0), (.lastore, 0, 0, 0), (.goto 6, 0, 0, 0), (.iconst 0, 0, 0, 0)] [] (q := 16) (L' := [some (.ref a0), some (.int b1), some (.ref a2), none]) (st' := [.int (J 0)]) (v1 := (sl w4 a2 0 (Int32.toInt64 x2))) (by decide +kernel) rfl ⟨⟨h6, h7⟩, trivial⟩ ?_
  refine sim_lt (x := (sl w4 a2 0 (Int32.toInt64 x2))) ?_
  generalize (sl w4 a2 0 (Int32.toInt64 x2)) = w8
  exact sim_iret (by decide +kernel) rfl rfl rfl
def B_lw_printMeasurement : bd := (⟨"GateCounterLaw", "printMeasurement", "(LGateCounter;I[J)I"⟩, method_34_code, 4, (some .int), [(0, 9, 12, 25)], 15, 8)
theorem m_lw_printMeasurement : mX B_lw_printMeasurement 3 := ⟨⟨⟨by decide +kernel, Or.inr (by decide +kernel)⟩, rfl, (List.mem_of_getElem? (i := 1576) (by decide +kernel)), by decide +kernel, (List.mem_of_getElem? (i := 94) (by decide +kernel)), ⟨by decide, by decide⟩, by decide⟩, List.cons_ne_nil _ _, (by unfold nar; decide +kernel), (List.mem_of_getElem? (i := 1575) (by decide +kernel))⟩
noncomputable def F_lw_printMeasurement (N : Nat) (a0 : Nat) (b1 : Int32) (a2 : Nat) (S : shp) (v : vl) : Option (Int32 × shp × vl) :=
  grd (kin S a0 = some (0, 5)) <| bx (F_gc_printMeasurement N a0 b1 S v) (fun k0 => if k0 = 1 then lt (skip S 6) fun S9 => some (((J 1), S9, v)) else none) fun (x2, S3, w4) => grd (kin S3 a2 = some (3, alen S3 a2)) <| grd (vp_in (J 0) (alen S3 a2)) <| lt (sl w4 a2 0 (Int32.toInt64 x2)) fun w8 => some (((J 0), S3, w8))
theorem ok_lw_printMeasurement (N : Nat) (a0 : Nat) (b1 : Int32) (a2 : Nat) (S : shp) (v : vl) : SimK B_lw_printMeasurement 0 (entB (bN B_lw_printMeasurement) [.ref a0, .int b1, .ref a2]) [] S v (F_lw_printMeasurement N a0 b1 a2 S v) (ρgi) := by
  show SimK B_lw_printMeasurement 0 [some (.ref a0), some (.int b1), some (.ref a2), none] [] S v (F_lw_printMeasurement N a0 b1 a2 S v) _
  unfold F_lw_printMeasurement
  refine sim_seg [(.aload_n 2, 0, 0, 0), (.iconst 0, 0, 0, 0), (.aload_n 0, 0, 0, 0), (.iload_n 1, 0, 0, 0)] [] (q := 4) (L' := [some (.ref a0), some (.int b1), some (.ref a2), none]) (st' := [.int b1, .ref a0, .int (J 0), .ref a2]) (v1 := v) (by decide +kernel) rfl trivial ?_
  refine sim_grd fun h1 => ?_
  refine sim_catch1 (kA := 1) (x := ⟨0, 9, 12, 25⟩) (ok_gc_printMeasurement N a0 b1 S v) (cf_V (idx := 113) (ci := 5) [.int b1] m_gc_printMeasurement (by decide) ⟨by decide, by decide⟩ (List.mem_of_getElem? (i := 1577) (by decide +kernel)) rfl (Nat.le_of_ble_eq_true rfl) h1 (by decide +kernel) (Nat.le_of_ble_eq_true rfl) rfl) (fun _ => rfl) rfl (by decide) (by decide) (List.mem_of_getElem? (i := 1286) (by decide +kernel)) (by decide) ?_ (fun b _ => ?_)
  · intro r10
    refine sim_lt (x := skip S 6) ?_
    generalize skip S 6 = S9
    show SimK B_lw_printMeasurement 12 [some (.ref a0), some (.int b1), some (.ref a2), none] [.ref r10] S9 v _ _
    refine sim_seg [(.astore_n 3, 0, 0, 0)] [] (q := 13) (L' := [some (.ref a0), some (.int b1), some (.ref a2), some (.ref r10)]) (st' := []) (v1 := v) (by decide +kernel) rfl trivial ?_
    refine sim_seg [(.iconst 1, 0, 0, 1)] [] (q := 14) (L' := [some (.ref a0), some (.int b1), some (.ref a2), some (.ref r10)]) (st' := [.int (J 1)]) (v1 := v) (by decide +kernel) rfl trivial ?_
    exact sim_iret (by decide +kernel) rfl rfl rfl
  obtain ⟨x2, S3, w4⟩ := b
  refine ⟨some (.int x2), rfl, ?_⟩
  show SimK B_lw_printMeasurement 7 [some (.ref a0), some (.int b1), some (.ref a2), none] [.int x2, .int (J 0), .ref a2] S3 w4 _ _
  refine sim_grd fun h6 => ?_
  refine sim_grd fun h7 => ?_
  refine sim_seg [(.i2l, 0, 0, 0), (.lastore, 0, 0, 0), (.goto 6, 0, 0, 0), (.iconst 0, 0, 0, 0)] [] (q := 16) (L' := [some (.ref a0), some (.int b1), some (.ref a2), none]) (st' := [.int (J 0)]) (v1 := (sl w4 a2 0 (Int32.toInt64 x2))) (by decide +kernel) rfl ⟨⟨h6, h7⟩, trivial⟩ ?_
  refine sim_lt (x := (sl w4 a2 0 (Int32.toInt64 x2))) ?_
  generalize (sl w4 a2 0 (Int32.toInt64 x2)) = w8
  exact sim_iret (by decide +kernel) rfl rfl rfl
def B_lw_restoreState : bd := (⟨"GateCounterLaw", "restoreState", "(LGateCounter;[J)I"⟩, method_35_code, 3, (some .int), [(0, 8, 11, 111)], 15, 7)
theorem m_lw_restoreState : mX B_lw_restoreState 2 := ⟨⟨⟨by decide +kernel, Or.inr (by decide +kernel)⟩, rfl, (List.mem_of_getElem? (i := 1590) (by decide +kernel)), by decide +kernel, (List.mem_of_getElem? (i := 94) (by decide +kernel)), ⟨by decide, by decide⟩, by decide⟩, List.cons_ne_nil _ _, (by unfold nar; decide +kernel), (List.mem_of_getElem? (i := 1589) (by decide +kernel))⟩
noncomputable def F_lw_restoreState (N : Nat) (a0 : Nat) (a1 : Nat) (S : shp) (v : vl) : Option (Int32 × shp × vl) :=
  grd (kin S a0 = some (0, 5)) <| bx (F_gc_restoreState N a0 S v) (fun k0 => if k0 = 3 then lt (skip S 6) fun S9 => some (((J 1), S9, v)) else none) fun (x2, S3, w4) => grd (kin S3 a1 = some (3, alen S3 a1)) <| grd (vp_in (J 0) (alen S3 a1)) <| lt (sl w4 a1 0 (Int32.toInt64 x2)) fun w8 => some (((J 0), S3, w8))
theorem ok_lw_restoreState (N : Nat) (a0 : Nat) (a1 : Nat) (S : shp) (v : vl) : SimK B_lw_restoreState 0 (entB (bN B_lw_restoreState) [.ref a0, .ref a1]) [] S v (F_lw_restoreState N a0 a1 S v) (ρgi) := by
  show SimK B_lw_restoreState 0 [some (.ref a0), some (.ref a1), none] [] S v (F_lw_restoreState N a0 a1 S v) _
  unfold F_lw_restoreState
  refine sim_seg [(.aload_n 1, 0, 0, 0), (.iconst 0, 0, 0, 0), (.aload_n 0, 0, 0, 0)] [] (q := 3) (L' := [some (.ref a0), some (.ref a1), none]) (st' := [.ref a0, .int (J 0), .ref a1]) (v1 := v) (by decide +kernel) rfl trivial ?_
  refine sim_grd fun h1 => ?_
  refine sim_catch1 (kA := 3) (x := ⟨0, 8, 11, 111⟩) (ok_gc_restoreState N a0 S v) (cf_V (idx := 116) (ci := 5) [] m_gc_restoreState (by decide) ⟨by decide, by decide⟩ (List.mem_of_getElem? (i := 1591) (by decide +kernel)) rfl (Nat.le_of_ble_eq_true rfl) h1 (by decide +kernel) (Nat.le_of_ble_eq_true rfl) rfl) (fun _ => rfl) rfl (by decide) (by decide) (List.mem_of_getElem? (i := 1554) (by decide +kernel)) (by decide) ?_ (fun b _ => ?_)
  · intro r10
    refine sim_lt (x := skip S 6) ?_
    generalize skip S 6 = S9
    show SimK B_lw_restoreState 11 [some (.ref a0), some (.ref a1), none] [.ref r10] S9 v _ _
    refine sim_seg [(.astore_n 2, 0, 0, 0)] [] (q := 12) (L' := [some (.ref a0), some (.ref a1), some (.ref r10)]) (st' := []) (v1 := v) (by decide +kernel) rfl trivial ?_
    refine sim_seg [(.iconst 1, 0, 0, 1)] [] (q := 13) (L' := [some (.ref a0), some (.ref a1), some (.ref r10)]) (st' := [.int (J 1)]) (v1 := v) (by decide +kernel) rfl trivial ?_
    exact sim_iret (by decide +kernel) rfl rfl rfl
  obtain ⟨x2, S3, w4⟩ := b
  refine ⟨some (.int x2), rfl, ?_⟩
  show SimK B_lw_restoreState 6 [some (.ref a0), some (.ref a1), none] [.int x2, .int (J 0), .ref a1] S3 w4 _ _
  refine sim_grd fun h6 => ?_
  refine sim_grd fun h7 => ?_
  refine sim_seg [(.i2l, 0, 0, 0), (.lastore, 0, 0, 0), (.goto 6, 0, 0, 0), (.iconst 0, 0, 0, 0)] [] (q := 15) (L' := [some (.ref a0), some (.ref a1), none]) (st' := [.int (J 0)]) (v1 := (sl w4 a1 0 (Int32.toInt64 x2))) (by decide +kernel) rfl ⟨⟨h6, h7⟩, trivial⟩ ?_
  refine sim_lt (x := (sl w4 a1 0 (Int32.toInt64 x2))) ?_
  generalize (sl w4 a1 0 (Int32.toInt64 x2)) = w8
  exact sim_iret (by decide +kernel) rfl rfl rfl
def B_lw_run : bd := (⟨"GateCounterLaw", "run", "(LGateCounter;I[J)I"⟩, method_25_code, 4, (some .int), [(0, 9, 12, 13), (0, 9, 15, 84)], 15, 9)
theorem m_lw_run : mX B_lw_run 3 := ⟨⟨⟨by decide +kernel, Or.inr (by decide +kernel)⟩, rfl, (List.mem_of_getElem? (i := 1468) (by decide +kernel)), by decide +kernel, (List.mem_of_getElem? (i := 94) (by decide +kernel)), ⟨by decide, by decide⟩, by decide⟩, List.cons_ne_nil _ _, (by unfold nar; decide +kernel), (List.mem_of_getElem? (i := 1467) (by decide +kernel))⟩
noncomputable def F_lw_run (N : Nat) (a0 : Nat) (b1 : Int32) (a2 : Nat) (S : shp) (v : vl) : Option (Int32 × shp × vl) :=
  grd (kin S a0 = some (0, 5)) <| bx (F_gc_run N a0 b1 S v) (fun k0 => if k0 = 0 then lt (skip S 6) fun S9 => some (((J 1), S9, v)) else if k0 = 2 then lt (skip S 6) fun S11 => some (((J 2), S11, v)) else none) fun (x2, S3, w4) => grd (kin S3 a2 = some (3, alen S3 a2)) <| grd (vp_in (J 0) (alen S3 a2)) <| lt (sl w4 a2 0 (Int32.toInt64 x2)) fun w8 => some (((J 0), S3, w8))
theorem ok_lw_run (N : Nat) (a0 : Nat) (b1 : Int32) (a2 : Nat) (S : shp) (v : vl) : SimK B_lw_run 0 (entB (bN B_lw_run) [.ref a0, .int b1, .ref a2]) [] S v (F_lw_run N a0 b1 a2 S v) (ρgi) := by
  show SimK B_lw_run 0 [some (.ref a0), some (.int b1), some (.ref a2), none] [] S v (F_lw_run N a0 b1 a2 S v) _
  unfold F_lw_run
  refine sim_seg [(.aload_n 2, 0, 0, 0), (.iconst 0, 0, 0, 0), (.aload_n 0, 0, 0, 0), (.iload_n 1, 0, 0, 0)] [] (q := 4) (L' := [some (.ref a0), some (.int b1), some (.ref a2), none]) (st' := [.int b1, .ref a0, .int (J 0), .ref a2]) (v1 := v) (by decide +kernel) rfl trivial ?_
  refine sim_grd fun h1 => ?_
  refine sim_catch2 (kA := 0) (kB := 2) (x := ⟨0, 9, 12, 13⟩) (y := ⟨0, 9, 15, 84⟩) (ok_gc_run N a0 b1 S v) (cf_V (idx := 81) (ci := 5) [.int b1] m_gc_run (by decide) ⟨by decide, by decide⟩ (List.mem_of_getElem? (i := 1470) (by decide +kernel)) rfl (Nat.le_of_ble_eq_true rfl) h1 (by decide +kernel) (Nat.le_of_ble_eq_true rfl) rfl) (fun _ => rfl) rfl ⟨by decide, by decide⟩ ⟨by decide, by decide⟩ (List.mem_of_getElem? (i := 1267) (by decide +kernel)) (List.mem_of_getElem? (i := 1469) (by decide +kernel)) (by decide) ?_ ?_ (fun b _ => ?_)
  · intro r10
    refine sim_lt (x := skip S 6) ?_
    generalize skip S 6 = S9
    show SimK B_lw_run 12 [some (.ref a0), some (.int b1), some (.ref a2), none] [.ref r10] S9 v _ _
    refine sim_seg [(.astore_n 3, 0, 0, 0)] [] (q := 13) (L' := [some (.ref a0), some (.int b1), some (.ref a2), some (.ref r10)]) (st' := []) (v1 := v) (by decide +kernel) rfl trivial ?_
    refine sim_seg [(.iconst 1, 0, 0, 1)] [] (q := 14) (L' := [some (.ref a0), some (.int b1), some (.ref a2), some (.ref r10)]) (st' := [.int (J 1)]) (v1 := v) (by decide +kernel) rfl trivial ?_
    exact sim_iret (by decide +kernel) rfl rfl rfl
  · intro r12
    refine sim_lt (x := skip S 6) ?_
    generalize skip S 6 = S11
    show SimK B_lw_run 15 [some (.ref a0), some (.int b1), some (.ref a2), none] [.ref r12] S11 v _ _
    refine sim_seg [(.astore_n 3, 0, 0, 0)] [] (q := 16) (L' := [some (.ref a0), some (.int b1), some (.ref a2), some (.ref r12)]) (st' := []) (v1 := v) (by decide +kernel) rfl trivial ?_
    refine sim_seg [(.iconst 2, 0, 0, 2)] [] (q := 17) (L' := [some (.ref a0), some (.int b1), some (.ref a2), some (.ref r12)]) (st' := [.int (J 2)]) (v1 := v) (by decide +kernel) rfl trivial ?_
    exact sim_iret (by decide +kernel) rfl rfl rfl
  obtain ⟨x2, S3, w4⟩ := b
  refine ⟨some (.int x2), rfl, ?_⟩
  show SimK B_lw_run 7 [some (.ref a0), some (.int b1), some (.ref a2), none] [.int x2, .int (J 0), .ref a2] S3 w4 _ _
  refine sim_grd fun h6 => ?_
  refine sim_grd fun h7 => ?_
  refine sim_seg [(.i2l, 0, 0, 0), (.lastore, 0, 0, 0), (.goto 9, 0, 0, 0), (.iconst 0, 0, 0, 0)] [] (q := 19) (L' := [some (.ref a0), some (.int b1), some (.ref a2), none]) (st' := [.int (J 0)]) (v1 := (sl w4 a2 0 (Int32.toInt64 x2))) (by decide +kernel) rfl ⟨⟨h6, h7⟩, trivial⟩ ?_
  refine sim_lt (x := (sl w4 a2 0 (Int32.toInt64 x2))) ?_
  generalize (sl w4 a2 0 (Int32.toInt64 x2)) = w8
  exact sim_iret (by decide +kernel) rfl rfl rfl
def B_lw_runTo : bd := (⟨"GateCounterLaw", "runTo", "(LGateCounter;I[J)I"⟩, method_26_code, 4, (some .int), [(0, 9, 12, 13)], 15, 9)
theorem m_lw_runTo : mX B_lw_runTo 3 := ⟨⟨⟨by decide +kernel, Or.inr (by decide +kernel)⟩, rfl, (List.mem_of_getElem? (i := 1491) (by decide +kernel)), by decide +kernel, (List.mem_of_getElem? (i := 94) (by decide +kernel)), ⟨by decide, by decide⟩, by decide⟩, List.cons_ne_nil _ _, (by unfold nar; decide +kernel), (List.mem_of_getElem? (i := 1490) (by decide +kernel))⟩
noncomputable def F_lw_runTo (N : Nat) (a0 : Nat) (b1 : Int32) (a2 : Nat) (S : shp) (v : vl) : Option (Int32 × shp × vl) :=
  grd (kin S a0 = some (0, 5)) <| bx (F_gc_runTo N a0 b1 S v) (fun k0 => if k0 = 0 then lt (skip S 6) fun S9 => some (((J 1), S9, v)) else none) fun (x2, S3, w4) => grd (kin S3 a2 = some (3, alen S3 a2)) <| grd (vp_in (J 0) (alen S3 a2)) <| lt (sl w4 a2 0 (Int32.toInt64 x2)) fun w8 => some (((J 0), S3, w8))
theorem ok_lw_runTo (N : Nat) (a0 : Nat) (b1 : Int32) (a2 : Nat) (S : shp) (v : vl) : SimK B_lw_runTo 0 (entB (bN B_lw_runTo) [.ref a0, .int b1, .ref a2]) [] S v (F_lw_runTo N a0 b1 a2 S v) (ρgi) := by
  show SimK B_lw_runTo 0 [some (.ref a0), some (.int b1), some (.ref a2), none] [] S v (F_lw_runTo N a0 b1 a2 S v) _
  unfold F_lw_runTo
  refine sim_seg [(.aload_n 2, 0, 0, 0), (.iconst 0, 0, 0, 0), (.aload_n 0, 0, 0, 0), (.iload_n 1, 0, 0, 0)] [] (q := 4) (L' := [some (.ref a0), some (.int b1), some (.ref a2), none]) (st' := [.int b1, .ref a0, .int (J 0), .ref a2]) (v1 := v) (by decide +kernel) rfl trivial ?_
  refine sim_grd fun h1 => ?_
  refine sim_catch1 (kA := 0) (x := ⟨0, 9, 12, 13⟩) (ok_gc_runTo N a0 b1 S v) (cf_V (idx := 86) (ci := 5) [.int b1] m_gc_runTo (by decide) ⟨by decide, by decide⟩ (List.mem_of_getElem? (i := 1492) (by decide +kernel)) rfl (Nat.le_of_ble_eq_true rfl) h1 (by decide +kernel) (Nat.le_of_ble_eq_true rfl) rfl) (fun _ => rfl) rfl (by decide) (by decide) (List.mem_of_getElem? (i := 1267) (by decide +kernel)) (by decide) ?_ (fun b _ => ?_)
  · intro r10
    refine sim_lt (x := skip S 6) ?_
    generalize skip S 6 = S9
    show SimK B_lw_runTo 12 [some (.ref a0), some (.int b1), some (.ref a2), none] [.ref r10] S9 v _ _
    refine sim_seg [(.astore_n 3, 0, 0, 0)] [] (q := 13) (L' := [some (.ref a0), some (.int b1), some (.ref a2), some (.ref r10)]) (st' := []) (v1 := v) (by decide +kernel) rfl trivial ?_
    refine sim_seg [(.iconst 1, 0, 0, 1)] [] (q := 14) (L' := [some (.ref a0), some (.int b1), some (.ref a2), some (.ref r10)]) (st' := [.int (J 1)]) (v1 := v) (by decide +kernel) rfl trivial ?_
    exact sim_iret (by decide +kernel) rfl rfl rfl
  obtain ⟨x2, S3, w4⟩ := b
  refine ⟨some (.int x2), rfl, ?_⟩
  show SimK B_lw_runTo 7 [some (.ref a0), some (.int b1), some (.ref a2), none] [.int x2, .int (J 0), .ref a2] S3 w4 _ _
  refine sim_grd fun h6 => ?_
  refine sim_grd fun h7 => ?_
  refine sim_seg [(.i2l, 0, 0, 0), (.lastore, 0, 0, 0), (.goto 6, 0, 0, 0), (.iconst 0, 0, 0, 0)] [] (q := 16) (L' := [some (.ref a0), some (.int b1), some (.ref a2), none]) (st' := [.int (J 0)]) (v1 := (sl w4 a2 0 (Int32.toInt64 x2))) (by decide +kernel) rfl ⟨⟨h6, h7⟩, trivial⟩ ?_
  refine sim_lt (x := (sl w4 a2 0 (Int32.toInt64 x2))) ?_
  generalize (sl w4 a2 0 (Int32.toInt64 x2)) = w8
  exact sim_iret (by decide +kernel) rfl rfl rfl
def B_lw_segment : bd := (⟨"GateCounterLaw", "segment", "(LGateCounter;II[J)I"⟩, method_6_code, 5, (some .int), [(0, 10, 13, 25), (0, 10, 17, 13)], 15, 8)
theorem m_lw_segment : mX B_lw_segment 4 := ⟨⟨⟨by decide +kernel, Or.inr (by decide +kernel)⟩, rfl, (List.mem_of_getElem? (i := 1285) (by decide +kernel)), by decide +kernel, (List.mem_of_getElem? (i := 94) (by decide +kernel)), ⟨by decide, by decide⟩, by decide⟩, List.cons_ne_nil _ _, (by unfold nar; decide +kernel), (List.mem_of_getElem? (i := 1284) (by decide +kernel))⟩
noncomputable def F_lw_segment (a0 : Nat) (b1 : Int32) (b2 : Int32) (a3 : Nat) (S : shp) (v : vl) : Option (Int32 × shp × vl) :=
  grd (kin S a0 = some (0, 5)) <| bx (F_gc_segment a0 b1 b2 S v) (fun k0 => if k0 = 1 then lt (skip S 6) fun S6 => some (((J 1), S6, v)) else if k0 = 0 then lt (skip S 6) fun S8 => some (((J 2), S8, v)) else none) fun x2 => grd (kin S a3 = some (3, alen S a3)) <| grd (vp_in (J 0) (alen S a3)) <| lt (sl v a3 0 (Int32.toInt64 x2)) fun w5 => some (((J 0), S, w5))
theorem ok_lw_segment (a0 : Nat) (b1 : Int32) (b2 : Int32) (a3 : Nat) (S : shp) (v : vl) : SimK B_lw_segment 0 (entB (bN B_lw_segment) [.ref a0, .int b1, .int b2, .ref a3]) [] S v (F_lw_segment a0 b1 b2 a3 S v) (ρgi) := by
  show SimK B_lw_segment 0 [some (.ref a0), some (.int b1), some (.int b2), some (.ref a3), none] [] S v (F_lw_segment a0 b1 b2 a3 S v) _
  unfold F_lw_segment
  refine sim_seg [(.aload_n 3, 0, 0, 0), (.iconst 0, 0, 0, 0), (.aload_n 0, 0, 0, 0), (.iload_n 1, 0, 0, 0), (.iload_n 2, 0, 0, 0)] [] (q := 5) (L' := [some (.ref a0), some (.int b1), some (.int b2), some (.ref a3), none]) (st' := [.int b2, .int b1, .ref a0, .int (J 0), .ref a3]) (v1 := v) (by decide +kernel) rfl trivial ?_
  refine sim_grd fun h1 => ?_
  refine sim_catch2 (kA := 1) (kB := 0) (x := ⟨0, 10, 13, 25⟩) (y := ⟨0, 10, 17, 13⟩) (ok_gc_segment a0 b1 b2 S v) (cf_V (idx := 21) (ci := 5) [.int b1, .int b2] m_gc_segment (by decide) ⟨by decide, by decide⟩ (List.mem_of_getElem? (i := 1287) (by decide +kernel)) rfl (Nat.le_of_ble_eq_true rfl) h1 (by decide +kernel) (Nat.le_of_ble_eq_true rfl) rfl) (fun _ => rfl) rfl ⟨by decide, by decide⟩ ⟨by decide, by decide⟩ (List.mem_of_getElem? (i := 1286) (by decide +kernel)) (List.mem_of_getElem? (i := 1267) (by decide +kernel)) (by decide) ?_ ?_ (fun b _ => ?_)
  · intro r7
    refine sim_lt (x := skip S 6) ?_
    generalize skip S 6 = S6
    show SimK B_lw_segment 13 [some (.ref a0), some (.int b1), some (.int b2), some (.ref a3), none] [.ref r7] S6 v _ _
    refine sim_seg [(.astore 4, 0, 0, 0)] [] (q := 15) (L' := [some (.ref a0), some (.int b1), some (.int b2), some (.ref a3), some (.ref r7)]) (st' := []) (v1 := v) (by decide +kernel) rfl trivial ?_
    refine sim_seg [(.iconst 1, 0, 0, 1)] [] (q := 16) (L' := [some (.ref a0), some (.int b1), some (.int b2), some (.ref a3), some (.ref r7)]) (st' := [.int (J 1)]) (v1 := v) (by decide +kernel) rfl trivial ?_
    exact sim_iret (by decide +kernel) rfl rfl rfl
  · intro r9
    refine sim_lt (x := skip S 6) ?_
    generalize skip S 6 = S8
    show SimK B_lw_segment 17 [some (.ref a0), some (.int b1), some (.int b2), some (.ref a3), none] [.ref r9] S8 v _ _
    refine sim_seg [(.astore 4, 0, 0, 0)] [] (q := 19) (L' := [some (.ref a0), some (.int b1), some (.int b2), some (.ref a3), some (.ref r9)]) (st' := []) (v1 := v) (by decide +kernel) rfl trivial ?_
    refine sim_seg [(.iconst 2, 0, 0, 2)] [] (q := 20) (L' := [some (.ref a0), some (.int b1), some (.int b2), some (.ref a3), some (.ref r9)]) (st' := [.int (J 2)]) (v1 := v) (by decide +kernel) rfl trivial ?_
    exact sim_iret (by decide +kernel) rfl rfl rfl
  generalize b = x2
  refine ⟨some (.int x2), rfl, ?_⟩
  show SimK B_lw_segment 8 [some (.ref a0), some (.int b1), some (.int b2), some (.ref a3), none] [.int x2, .int (J 0), .ref a3] S v _ _
  refine sim_grd fun h3 => ?_
  refine sim_grd fun h4 => ?_
  refine sim_seg [(.i2l, 0, 0, 0), (.lastore, 0, 0, 0), (.goto 11, 0, 0, 0), (.iconst 0, 0, 0, 0)] [] (q := 22) (L' := [some (.ref a0), some (.int b1), some (.int b2), some (.ref a3), none]) (st' := [.int (J 0)]) (v1 := (sl v a3 0 (Int32.toInt64 x2))) (by decide +kernel) rfl ⟨⟨h3, h4⟩, trivial⟩ ?_
  refine sim_lt (x := (sl v a3 0 (Int32.toInt64 x2))) ?_
  generalize (sl v a3 0 (Int32.toInt64 x2)) = w5
  exact sim_iret (by decide +kernel) rfl rfl rfl
def B_lw_set : bd := (⟨"GateCounterLaw", "set", "(LGateCounter;II[J)I"⟩, method_29_code, 5, (some .int), [(0, 10, 13, 13)], 15, 8)
theorem m_lw_set : mX B_lw_set 4 := ⟨⟨⟨by decide +kernel, Or.inr (by decide +kernel)⟩, rfl, (List.mem_of_getElem? (i := 1518) (by decide +kernel)), by decide +kernel, (List.mem_of_getElem? (i := 94) (by decide +kernel)), ⟨by decide, by decide⟩, by decide⟩, List.cons_ne_nil _ _, (by unfold nar; decide +kernel), (List.mem_of_getElem? (i := 1517) (by decide +kernel))⟩
noncomputable def F_lw_set (N : Nat) (a0 : Nat) (b1 : Int32) (b2 : Int32) (a3 : Nat) (S : shp) (v : vl) : Option (Int32 × shp × vl) :=
  grd (kin S a0 = some (0, 5)) <| bx (F_gc_set N a0 b1 b2 S v) (fun k0 => if k0 = 0 then lt (skip S 6) fun S9 => some (((J 1), S9, v)) else none) fun (x2, S3, w4) => grd (kin S3 a3 = some (3, alen S3 a3)) <| grd (vp_in (J 0) (alen S3 a3)) <| lt (sl w4 a3 0 (Int32.toInt64 x2)) fun w8 => some (((J 0), S3, w8))
theorem ok_lw_set (N : Nat) (a0 : Nat) (b1 : Int32) (b2 : Int32) (a3 : Nat) (S : shp) (v : vl) : SimK B_lw_set 0 (entB (bN B_lw_set) [.ref a0, .int b1, .int b2, .ref a3]) [] S v (F_lw_set N a0 b1 b2 a3 S v) (ρgi) := by
  show SimK B_lw_set 0 [some (.ref a0), some (.int b1), some (.int b2), some (.ref a3), none] [] S v (F_lw_set N a0 b1 b2 a3 S v) _
  unfold F_lw_set
  refine sim_seg [(.aload_n 3, 0, 0, 0), (.iconst 0, 0, 0, 0), (.aload_n 0, 0, 0, 0), (.iload_n 1, 0, 0, 0), (.iload_n 2, 0, 0, 0)] [] (q := 5) (L' := [some (.ref a0), some (.int b1), some (.int b2), some (.ref a3), none]) (st' := [.int b2, .int b1, .ref a0, .int (J 0), .ref a3]) (v1 := v) (by decide +kernel) rfl trivial ?_
  refine sim_grd fun h1 => ?_
  refine sim_catch1 (kA := 0) (x := ⟨0, 10, 13, 13⟩) (ok_gc_set N a0 b1 b2 S v) (cf_V (idx := 95) (ci := 5) [.int b1, .int b2] m_gc_set (by decide) ⟨by decide, by decide⟩ (List.mem_of_getElem? (i := 1519) (by decide +kernel)) rfl (Nat.le_of_ble_eq_true rfl) h1 (by decide +kernel) (Nat.le_of_ble_eq_true rfl) rfl) (fun _ => rfl) rfl (by decide) (by decide) (List.mem_of_getElem? (i := 1267) (by decide +kernel)) (by decide) ?_ (fun b _ => ?_)
  · intro r10
    refine sim_lt (x := skip S 6) ?_
    generalize skip S 6 = S9
    show SimK B_lw_set 13 [some (.ref a0), some (.int b1), some (.int b2), some (.ref a3), none] [.ref r10] S9 v _ _
    refine sim_seg [(.astore 4, 0, 0, 0)] [] (q := 15) (L' := [some (.ref a0), some (.int b1), some (.int b2), some (.ref a3), some (.ref r10)]) (st' := []) (v1 := v) (by decide +kernel) rfl trivial ?_
    refine sim_seg [(.iconst 1, 0, 0, 1)] [] (q := 16) (L' := [some (.ref a0), some (.int b1), some (.int b2), some (.ref a3), some (.ref r10)]) (st' := [.int (J 1)]) (v1 := v) (by decide +kernel) rfl trivial ?_
    exact sim_iret (by decide +kernel) rfl rfl rfl
  obtain ⟨x2, S3, w4⟩ := b
  refine ⟨some (.int x2), rfl, ?_⟩
  show SimK B_lw_set 8 [some (.ref a0), some (.int b1), some (.int b2), some (.ref a3), none] [.int x2, .int (J 0), .ref a3] S3 w4 _ _
  refine sim_grd fun h6 => ?_
  refine sim_grd fun h7 => ?_
  refine sim_seg [(.i2l, 0, 0, 0), (.lastore, 0, 0, 0), (.goto 7, 0, 0, 0), (.iconst 0, 0, 0, 0)] [] (q := 18) (L' := [some (.ref a0), some (.int b1), some (.int b2), some (.ref a3), none]) (st' := [.int (J 0)]) (v1 := (sl w4 a3 0 (Int32.toInt64 x2))) (by decide +kernel) rfl ⟨⟨h6, h7⟩, trivial⟩ ?_
  refine sim_lt (x := (sl w4 a3 0 (Int32.toInt64 x2))) ?_
  generalize (sl w4 a3 0 (Int32.toInt64 x2)) = w8
  exact sim_iret (by decide +kernel) rfl rfl rfl
def B_lw_setPrescale : bd := (⟨"GateCounterLaw", "setPrescale", "(LGateCounter;I[J)I"⟩, method_28_code, 4, (some .int), [(0, 9, 12, 13)], 15, 8)
theorem m_lw_setPrescale : mX B_lw_setPrescale 3 := ⟨⟨⟨by decide +kernel, Or.inr (by decide +kernel)⟩, rfl, (List.mem_of_getElem? (i := 1510) (by decide +kernel)), by decide +kernel, (List.mem_of_getElem? (i := 94) (by decide +kernel)), ⟨by decide, by decide⟩, by decide⟩, List.cons_ne_nil _ _, (by unfold nar; decide +kernel), (List.mem_of_getElem? (i := 1509) (by decide +kernel))⟩
noncomputable def F_lw_setPrescale (N : Nat) (a0 : Nat) (b1 : Int32) (a2 : Nat) (S : shp) (v : vl) : Option (Int32 × shp × vl) :=
  grd (kin S a0 = some (0, 5)) <| bx (F_gc_setPrescale N a0 b1 S v) (fun k0 => if k0 = 0 then lt (skip S 6) fun S9 => some (((J 1), S9, v)) else none) fun (x2, S3, w4) => grd (kin S3 a2 = some (3, alen S3 a2)) <| grd (vp_in (J 0) (alen S3 a2)) <| lt (sl w4 a2 0 (Int32.toInt64 x2)) fun w8 => some (((J 0), S3, w8))
theorem ok_lw_setPrescale (N : Nat) (a0 : Nat) (b1 : Int32) (a2 : Nat) (S : shp) (v : vl) : SimK B_lw_setPrescale 0 (entB (bN B_lw_setPrescale) [.ref a0, .int b1, .ref a2]) [] S v (F_lw_setPrescale N a0 b1 a2 S v) (ρgi) := by
  show SimK B_lw_setPrescale 0 [some (.ref a0), some (.int b1), some (.ref a2), none] [] S v (F_lw_setPrescale N a0 b1 a2 S v) _
  unfold F_lw_setPrescale
  refine sim_seg [(.aload_n 2, 0, 0, 0), (.iconst 0, 0, 0, 0), (.aload_n 0, 0, 0, 0), (.iload_n 1, 0, 0, 0)] [] (q := 4) (L' := [some (.ref a0), some (.int b1), some (.ref a2), none]) (st' := [.int b1, .ref a0, .int (J 0), .ref a2]) (v1 := v) (by decide +kernel) rfl trivial ?_
  refine sim_grd fun h1 => ?_
  refine sim_catch1 (kA := 0) (x := ⟨0, 9, 12, 13⟩) (ok_gc_setPrescale N a0 b1 S v) (cf_V (idx := 92) (ci := 5) [.int b1] m_gc_setPrescale (by decide) ⟨by decide, by decide⟩ (List.mem_of_getElem? (i := 1511) (by decide +kernel)) rfl (Nat.le_of_ble_eq_true rfl) h1 (by decide +kernel) (Nat.le_of_ble_eq_true rfl) rfl) (fun _ => rfl) rfl (by decide) (by decide) (List.mem_of_getElem? (i := 1267) (by decide +kernel)) (by decide) ?_ (fun b _ => ?_)
  · intro r10
    refine sim_lt (x := skip S 6) ?_
    generalize skip S 6 = S9
    show SimK B_lw_setPrescale 12 [some (.ref a0), some (.int b1), some (.ref a2), none] [.ref r10] S9 v _ _
    refine sim_seg [(.astore_n 3, 0, 0, 0)] [] (q := 13) (L' := [some (.ref a0), some (.int b1), some (.ref a2), some (.ref r10)]) (st' := []) (v1 := v) (by decide +kernel) rfl trivial ?_
    refine sim_seg [(.iconst 1, 0, 0, 1)] [] (q := 14) (L' := [some (.ref a0), some (.int b1), some (.ref a2), some (.ref r10)]) (st' := [.int (J 1)]) (v1 := v) (by decide +kernel) rfl trivial ?_
    exact sim_iret (by decide +kernel) rfl rfl rfl
  obtain ⟨x2, S3, w4⟩ := b
  refine ⟨some (.int x2), rfl, ?_⟩
  show SimK B_lw_setPrescale 7 [some (.ref a0), some (.int b1), some (.ref a2), none] [.int x2, .int (J 0), .ref a2] S3 w4 _ _
  refine sim_grd fun h6 => ?_
  refine sim_grd fun h7 => ?_
  refine sim_seg [(.i2l, 0, 0, 0), (.lastore, 0, 0, 0), (.goto 6, 0, 0, 0), (.iconst 0, 0, 0, 0)] [] (q := 16) (L' := [some (.ref a0), some (.int b1), some (.ref a2), none]) (st' := [.int (J 0)]) (v1 := (sl w4 a2 0 (Int32.toInt64 x2))) (by decide +kernel) rfl ⟨⟨h6, h7⟩, trivial⟩ ?_
  refine sim_lt (x := (sl w4 a2 0 (Int32.toInt64 x2))) ?_
  generalize (sl w4 a2 0 (Int32.toInt64 x2)) = w8
  exact sim_iret (by decide +kernel) rfl rfl rfl
def B_lw_setting : bd := (⟨"GateCounterLaw", "setting", "(LGateCounter;I[J)I"⟩, method_4_code, 4, (some .int), [(0, 9, 12, 13)], 15, 7)
theorem m_lw_setting : mX B_lw_setting 3 := ⟨⟨⟨by decide +kernel, Or.inr (by decide +kernel)⟩, rfl, (List.mem_of_getElem? (i := 1274) (by decide +kernel)), by decide +kernel, (List.mem_of_getElem? (i := 94) (by decide +kernel)), ⟨by decide, by decide⟩, by decide⟩, List.cons_ne_nil _ _, (by unfold nar; decide +kernel), (List.mem_of_getElem? (i := 1273) (by decide +kernel))⟩
noncomputable def F_lw_setting (a0 : Nat) (b1 : Int32) (a2 : Nat) (S : shp) (v : vl) : Option (Int32 × shp × vl) :=
  grd (kin S a0 = some (0, 5)) <| bx (F_gc_setting a0 b1 S v) (fun k0 => if k0 = 0 then lt (skip S 6) fun S6 => some (((J 1), S6, v)) else none) fun x2 => grd (kin S a2 = some (3, alen S a2)) <| grd (vp_in (J 0) (alen S a2)) <| lt (sl v a2 0 (Int32.toInt64 x2)) fun w5 => some (((J 0), S, w5))
theorem ok_lw_setting (a0 : Nat) (b1 : Int32) (a2 : Nat) (S : shp) (v : vl) : SimK B_lw_setting 0 (entB (bN B_lw_setting) [.ref a0, .int b1, .ref a2]) [] S v (F_lw_setting a0 b1 a2 S v) (ρgi) := by
  show SimK B_lw_setting 0 [some (.ref a0), some (.int b1), some (.ref a2), none] [] S v (F_lw_setting a0 b1 a2 S v) _
  unfold F_lw_setting
  refine sim_seg [(.aload_n 2, 0, 0, 0), (.iconst 0, 0, 0, 0), (.aload_n 0, 0, 0, 0), (.iload_n 1, 0, 0, 0)] [] (q := 4) (L' := [some (.ref a0), some (.int b1), some (.ref a2), none]) (st' := [.int b1, .ref a0, .int (J 0), .ref a2]) (v1 := v) (by decide +kernel) rfl trivial ?_
  refine sim_grd fun h1 => ?_
  refine sim_catch1 (kA := 0) (x := ⟨0, 9, 12, 13⟩) (ok_gc_setting a0 b1 S v) (cf_V (idx := 15) (ci := 5) [.int b1] m_gc_setting (by decide) ⟨by decide, by decide⟩ (List.mem_of_getElem? (i := 1275) (by decide +kernel)) rfl (Nat.le_of_ble_eq_true rfl) h1 (by decide +kernel) (Nat.le_of_ble_eq_true rfl) rfl) (fun _ => rfl) rfl (by decide) (by decide) (List.mem_of_getElem? (i := 1267) (by decide +kernel)) (by decide) ?_ (fun b _ => ?_)
  · intro r7
    refine sim_lt (x := skip S 6) ?_
    generalize skip S 6 = S6
    show SimK B_lw_setting 12 [some (.ref a0), some (.int b1), some (.ref a2), none] [.ref r7] S6 v _ _
    refine sim_seg [(.astore_n 3, 0, 0, 0)] [] (q := 13) (L' := [some (.ref a0), some (.int b1), some (.ref a2), some (.ref r7)]) (st' := []) (v1 := v) (by decide +kernel) rfl trivial ?_
    refine sim_seg [(.iconst 1, 0, 0, 1)] [] (q := 14) (L' := [some (.ref a0), some (.int b1), some (.ref a2), some (.ref r7)]) (st' := [.int (J 1)]) (v1 := v) (by decide +kernel) rfl trivial ?_
    exact sim_iret (by decide +kernel) rfl rfl rfl
  generalize b = x2
  refine ⟨some (.int x2), rfl, ?_⟩
  show SimK B_lw_setting 7 [some (.ref a0), some (.int b1), some (.ref a2), none] [.int x2, .int (J 0), .ref a2] S v _ _
  refine sim_grd fun h3 => ?_
  refine sim_grd fun h4 => ?_
  refine sim_seg [(.i2l, 0, 0, 0), (.lastore, 0, 0, 0), (.goto 6, 0, 0, 0), (.iconst 0, 0, 0, 0)] [] (q := 16) (L' := [some (.ref a0), some (.int b1), some (.ref a2), none]) (st' := [.int (J 0)]) (v1 := (sl v a2 0 (Int32.toInt64 x2))) (by decide +kernel) rfl ⟨⟨h3, h4⟩, trivial⟩ ?_
  refine sim_lt (x := (sl v a2 0 (Int32.toInt64 x2))) ?_
  generalize (sl v a2 0 (Int32.toInt64 x2)) = w5
  exact sim_iret (by decide +kernel) rfl rfl rfl
def B_lw_state : bd := (⟨"GateCounterLaw", "state", "(LGateCounter;I[J)I"⟩, method_5_code, 4, (some .int), [(0, 9, 12, 13)], 15, 7)
theorem m_lw_state : mX B_lw_state 3 := ⟨⟨⟨by decide +kernel, Or.inr (by decide +kernel)⟩, rfl, (List.mem_of_getElem? (i := 1278) (by decide +kernel)), by decide +kernel, (List.mem_of_getElem? (i := 94) (by decide +kernel)), ⟨by decide, by decide⟩, by decide⟩, List.cons_ne_nil _ _, (by unfold nar; decide +kernel), (List.mem_of_getElem? (i := 1277) (by decide +kernel))⟩
noncomputable def F_lw_state (a0 : Nat) (b1 : Int32) (a2 : Nat) (S : shp) (v : vl) : Option (Int32 × shp × vl) :=
  grd (kin S a0 = some (0, 5)) <| bx (F_gc_state a0 b1 S v) (fun k0 => if k0 = 0 then lt (skip S 6) fun S6 => some (((J 1), S6, v)) else none) fun x2 => grd (kin S a2 = some (3, alen S a2)) <| grd (vp_in (J 0) (alen S a2)) <| lt (sl v a2 0 (Int32.toInt64 x2)) fun w5 => some (((J 0), S, w5))
theorem ok_lw_state (a0 : Nat) (b1 : Int32) (a2 : Nat) (S : shp) (v : vl) : SimK B_lw_state 0 (entB (bN B_lw_state) [.ref a0, .int b1, .ref a2]) [] S v (F_lw_state a0 b1 a2 S v) (ρgi) := by
  show SimK B_lw_state 0 [some (.ref a0), some (.int b1), some (.ref a2), none] [] S v (F_lw_state a0 b1 a2 S v) _
  unfold F_lw_state
  refine sim_seg [(.aload_n 2, 0, 0, 0), (.iconst 0, 0, 0, 0), (.aload_n 0, 0, 0, 0), (.iload_n 1, 0, 0, 0)] [] (q := 4) (L' := [some (.ref a0), some (.int b1), some (.ref a2), none]) (st' := [.int b1, .ref a0, .int (J 0), .ref a2]) (v1 := v) (by decide +kernel) rfl trivial ?_
  refine sim_grd fun h1 => ?_
  refine sim_catch1 (kA := 0) (x := ⟨0, 9, 12, 13⟩) (ok_gc_state a0 b1 S v) (cf_V (idx := 18) (ci := 5) [.int b1] m_gc_state (by decide) ⟨by decide, by decide⟩ (List.mem_of_getElem? (i := 1279) (by decide +kernel)) rfl (Nat.le_of_ble_eq_true rfl) h1 (by decide +kernel) (Nat.le_of_ble_eq_true rfl) rfl) (fun _ => rfl) rfl (by decide) (by decide) (List.mem_of_getElem? (i := 1267) (by decide +kernel)) (by decide) ?_ (fun b _ => ?_)
  · intro r7
    refine sim_lt (x := skip S 6) ?_
    generalize skip S 6 = S6
    show SimK B_lw_state 12 [some (.ref a0), some (.int b1), some (.ref a2), none] [.ref r7] S6 v _ _
    refine sim_seg [(.astore_n 3, 0, 0, 0)] [] (q := 13) (L' := [some (.ref a0), some (.int b1), some (.ref a2), some (.ref r7)]) (st' := []) (v1 := v) (by decide +kernel) rfl trivial ?_
    refine sim_seg [(.iconst 1, 0, 0, 1)] [] (q := 14) (L' := [some (.ref a0), some (.int b1), some (.ref a2), some (.ref r7)]) (st' := [.int (J 1)]) (v1 := v) (by decide +kernel) rfl trivial ?_
    exact sim_iret (by decide +kernel) rfl rfl rfl
  generalize b = x2
  refine ⟨some (.int x2), rfl, ?_⟩
  show SimK B_lw_state 7 [some (.ref a0), some (.int b1), some (.ref a2), none] [.int x2, .int (J 0), .ref a2] S v _ _
  refine sim_grd fun h3 => ?_
  refine sim_grd fun h4 => ?_
  refine sim_seg [(.i2l, 0, 0, 0), (.lastore, 0, 0, 0), (.goto 6, 0, 0, 0), (.iconst 0, 0, 0, 0)] [] (q := 16) (L' := [some (.ref a0), some (.int b1), some (.ref a2), none]) (st' := [.int (J 0)]) (v1 := (sl v a2 0 (Int32.toInt64 x2))) (by decide +kernel) rfl ⟨⟨h3, h4⟩, trivial⟩ ?_
  refine sim_lt (x := (sl v a2 0 (Int32.toInt64 x2))) ?_
  generalize (sl v a2 0 (Int32.toInt64 x2)) = w5
  exact sim_iret (by decide +kernel) rfl rfl rfl
def B_lw_timeOfClock : bd := (⟨"GateCounterLaw", "timeOfClock", "(LGateCounter;I[J)I"⟩, method_13_code, 4, (some .int), [(0, 9, 12, 13)], 15, 9)
theorem m_lw_timeOfClock : mX B_lw_timeOfClock 3 := ⟨⟨⟨by decide +kernel, Or.inr (by decide +kernel)⟩, rfl, (List.mem_of_getElem? (i := 1369) (by decide +kernel)), by decide +kernel, (List.mem_of_getElem? (i := 94) (by decide +kernel)), ⟨by decide, by decide⟩, by decide⟩, List.cons_ne_nil _ _, (by unfold nar; decide +kernel), (List.mem_of_getElem? (i := 1368) (by decide +kernel))⟩
noncomputable def F_lw_timeOfClock (N : Nat) (a0 : Nat) (b1 : Int32) (a2 : Nat) (S : shp) (v : vl) : Option (Int32 × shp × vl) :=
  grd (kin S a0 = some (0, 5)) <| bx (F_gc_timeOfClock N a0 b1 S v) (fun k0 => if k0 = 0 then lt (skip S 6) fun S9 => some (((J 1), S9, v)) else none) fun (x2, S3, w4) => grd (kin S3 a2 = some (3, alen S3 a2)) <| grd (vp_in (J 0) (alen S3 a2)) <| lt (sl w4 a2 0 (Int32.toInt64 x2)) fun w8 => some (((J 0), S3, w8))
theorem ok_lw_timeOfClock (N : Nat) (a0 : Nat) (b1 : Int32) (a2 : Nat) (S : shp) (v : vl) : SimK B_lw_timeOfClock 0 (entB (bN B_lw_timeOfClock) [.ref a0, .int b1, .ref a2]) [] S v (F_lw_timeOfClock N a0 b1 a2 S v) (ρgi) := by
  show SimK B_lw_timeOfClock 0 [some (.ref a0), some (.int b1), some (.ref a2), none] [] S v (F_lw_timeOfClock N a0 b1 a2 S v) _
  unfold F_lw_timeOfClock
  refine sim_seg [(.aload_n 2, 0, 0, 0), (.iconst 0, 0, 0, 0), (.aload_n 0, 0, 0, 0), (.iload_n 1, 0, 0, 0)] [] (q := 4) (L' := [some (.ref a0), some (.int b1), some (.ref a2), none]) (st' := [.int b1, .ref a0, .int (J 0), .ref a2]) (v1 := v) (by decide +kernel) rfl trivial ?_
  refine sim_grd fun h1 => ?_
  refine sim_catch1 (kA := 0) (x := ⟨0, 9, 12, 13⟩) (ok_gc_timeOfClock N a0 b1 S v) (cf_V (idx := 45) (ci := 5) [.int b1] m_gc_timeOfClock (by decide) ⟨by decide, by decide⟩ (List.mem_of_getElem? (i := 1370) (by decide +kernel)) rfl (Nat.le_of_ble_eq_true rfl) h1 (by decide +kernel) (Nat.le_of_ble_eq_true rfl) rfl) (fun _ => rfl) rfl (by decide) (by decide) (List.mem_of_getElem? (i := 1267) (by decide +kernel)) (by decide) ?_ (fun b _ => ?_)
  · intro r10
    refine sim_lt (x := skip S 6) ?_
    generalize skip S 6 = S9
    show SimK B_lw_timeOfClock 12 [some (.ref a0), some (.int b1), some (.ref a2), none] [.ref r10] S9 v _ _
    refine sim_seg [(.astore_n 3, 0, 0, 0)] [] (q := 13) (L' := [some (.ref a0), some (.int b1), some (.ref a2), some (.ref r10)]) (st' := []) (v1 := v) (by decide +kernel) rfl trivial ?_
    refine sim_seg [(.iconst 1, 0, 0, 1)] [] (q := 14) (L' := [some (.ref a0), some (.int b1), some (.ref a2), some (.ref r10)]) (st' := [.int (J 1)]) (v1 := v) (by decide +kernel) rfl trivial ?_
    exact sim_iret (by decide +kernel) rfl rfl rfl
  obtain ⟨x2, S3, w4⟩ := b
  refine ⟨some (.int x2), rfl, ?_⟩
  show SimK B_lw_timeOfClock 7 [some (.ref a0), some (.int b1), some (.ref a2), none] [.int x2, .int (J 0), .ref a2] S3 w4 _ _
  refine sim_grd fun h6 => ?_
  refine sim_grd fun h7 => ?_
  refine sim_seg [(.i2l, 0, 0, 0), (.lastore, 0, 0, 0), (.goto 6, 0, 0, 0), (.iconst 0, 0, 0, 0)] [] (q := 16) (L' := [some (.ref a0), some (.int b1), some (.ref a2), none]) (st' := [.int (J 0)]) (v1 := (sl w4 a2 0 (Int32.toInt64 x2))) (by decide +kernel) rfl ⟨⟨h6, h7⟩, trivial⟩ ?_
  refine sim_lt (x := (sl w4 a2 0 (Int32.toInt64 x2))) ?_
  generalize (sl w4 a2 0 (Int32.toInt64 x2)) = w8
  exact sim_iret (by decide +kernel) rfl rfl rfl
def B_lw_timeOfEdge : bd := (⟨"GateCounterLaw", "timeOfEdge", "(LGateCounter;I[J)I"⟩, method_12_code, 4, (some .int), [(0, 9, 12, 13)], 15, 9)
theorem m_lw_timeOfEdge : mX B_lw_timeOfEdge 3 := ⟨⟨⟨by decide +kernel, Or.inr (by decide +kernel)⟩, rfl, (List.mem_of_getElem? (i := 1361) (by decide +kernel)), by decide +kernel, (List.mem_of_getElem? (i := 94) (by decide +kernel)), ⟨by decide, by decide⟩, by decide⟩, List.cons_ne_nil _ _, (by unfold nar; decide +kernel), (List.mem_of_getElem? (i := 1360) (by decide +kernel))⟩
noncomputable def F_lw_timeOfEdge (N : Nat) (a0 : Nat) (b1 : Int32) (a2 : Nat) (S : shp) (v : vl) : Option (Int32 × shp × vl) :=
  grd (kin S a0 = some (0, 5)) <| bx (F_gc_timeOfEdge N a0 b1 S v) (fun k0 => if k0 = 0 then lt (skip S 6) fun S6 => some (((J 1), S6, v)) else none) fun x2 => grd (kin S a2 = some (3, alen S a2)) <| grd (vp_in (J 0) (alen S a2)) <| lt (sl v a2 0 (Int32.toInt64 x2)) fun w5 => some (((J 0), S, w5))
theorem ok_lw_timeOfEdge (N : Nat) (a0 : Nat) (b1 : Int32) (a2 : Nat) (S : shp) (v : vl) : SimK B_lw_timeOfEdge 0 (entB (bN B_lw_timeOfEdge) [.ref a0, .int b1, .ref a2]) [] S v (F_lw_timeOfEdge N a0 b1 a2 S v) (ρgi) := by
  show SimK B_lw_timeOfEdge 0 [some (.ref a0), some (.int b1), some (.ref a2), none] [] S v (F_lw_timeOfEdge N a0 b1 a2 S v) _
  unfold F_lw_timeOfEdge
  refine sim_seg [(.aload_n 2, 0, 0, 0), (.iconst 0, 0, 0, 0), (.aload_n 0, 0, 0, 0), (.iload_n 1, 0, 0, 0)] [] (q := 4) (L' := [some (.ref a0), some (.int b1), some (.ref a2), none]) (st' := [.int b1, .ref a0, .int (J 0), .ref a2]) (v1 := v) (by decide +kernel) rfl trivial ?_
  refine sim_grd fun h1 => ?_
  refine sim_catch1 (kA := 0) (x := ⟨0, 9, 12, 13⟩) (ok_gc_timeOfEdge N a0 b1 S v) (cf_V (idx := 42) (ci := 5) [.int b1] m_gc_timeOfEdge (by decide) ⟨by decide, by decide⟩ (List.mem_of_getElem? (i := 1362) (by decide +kernel)) rfl (Nat.le_of_ble_eq_true rfl) h1 (by decide +kernel) (Nat.le_of_ble_eq_true rfl) rfl) (fun _ => rfl) rfl (by decide) (by decide) (List.mem_of_getElem? (i := 1267) (by decide +kernel)) (by decide) ?_ (fun b _ => ?_)
  · intro r7
    refine sim_lt (x := skip S 6) ?_
    generalize skip S 6 = S6
    show SimK B_lw_timeOfEdge 12 [some (.ref a0), some (.int b1), some (.ref a2), none] [.ref r7] S6 v _ _
    refine sim_seg [(.astore_n 3, 0, 0, 0)] [] (q := 13) (L' := [some (.ref a0), some (.int b1), some (.ref a2), some (.ref r7)]) (st' := []) (v1 := v) (by decide +kernel) rfl trivial ?_
    refine sim_seg [(.iconst 1, 0, 0, 1)] [] (q := 14) (L' := [some (.ref a0), some (.int b1), some (.ref a2), some (.ref r7)]) (st' := [.int (J 1)]) (v1 := v) (by decide +kernel) rfl trivial ?_
    exact sim_iret (by decide +kernel) rfl rfl rfl
  generalize b = x2
  refine ⟨some (.int x2), rfl, ?_⟩
  show SimK B_lw_timeOfEdge 7 [some (.ref a0), some (.int b1), some (.ref a2), none] [.int x2, .int (J 0), .ref a2] S v _ _
  refine sim_grd fun h3 => ?_
  refine sim_grd fun h4 => ?_
  refine sim_seg [(.i2l, 0, 0, 0), (.lastore, 0, 0, 0), (.goto 6, 0, 0, 0), (.iconst 0, 0, 0, 0)] [] (q := 16) (L' := [some (.ref a0), some (.int b1), some (.ref a2), none]) (st' := [.int (J 0)]) (v1 := (sl v a2 0 (Int32.toInt64 x2))) (by decide +kernel) rfl ⟨⟨h3, h4⟩, trivial⟩ ?_
  refine sim_lt (x := (sl v a2 0 (Int32.toInt64 x2))) ?_
  generalize (sl v a2 0 (Int32.toInt64 x2)) = w5
  exact sim_iret (by decide +kernel) rfl rfl rfl
def B_lw_trueRate : bd := (⟨"GateCounterLaw", "trueRate", "(LGateCounter;I[J)I"⟩, method_18_code, 4, (some .int), [(0, 9, 12, 13)], 15, 9)
theorem m_lw_trueRate : mX B_lw_trueRate 3 := ⟨⟨⟨by decide +kernel, Or.inr (by decide +kernel)⟩, rfl, (List.mem_of_getElem? (i := 1411) (by decide +kernel)), by decide +kernel, (List.mem_of_getElem? (i := 94) (by decide +kernel)), ⟨by decide, by decide⟩, by decide⟩, List.cons_ne_nil _ _, (by unfold nar; decide +kernel), (List.mem_of_getElem? (i := 1410) (by decide +kernel))⟩
noncomputable def F_lw_trueRate (N : Nat) (a0 : Nat) (b1 : Int32) (a2 : Nat) (S : shp) (v : vl) : Option (Int32 × shp × vl) :=
  grd (kin S a0 = some (0, 5)) <| bx (F_gc_trueRate N a0 b1 S v) (fun k0 => if k0 = 0 then lt (skip S 6) fun S9 => some (((J 1), S9, v)) else none) fun (x2, S3, w4) => grd (kin S3 a2 = some (3, alen S3 a2)) <| grd (vp_in (J 0) (alen S3 a2)) <| lt (sl w4 a2 0 (Int32.toInt64 x2)) fun w8 => some (((J 0), S3, w8))
theorem ok_lw_trueRate (N : Nat) (a0 : Nat) (b1 : Int32) (a2 : Nat) (S : shp) (v : vl) : SimK B_lw_trueRate 0 (entB (bN B_lw_trueRate) [.ref a0, .int b1, .ref a2]) [] S v (F_lw_trueRate N a0 b1 a2 S v) (ρgi) := by
  show SimK B_lw_trueRate 0 [some (.ref a0), some (.int b1), some (.ref a2), none] [] S v (F_lw_trueRate N a0 b1 a2 S v) _
  unfold F_lw_trueRate
  refine sim_seg [(.aload_n 2, 0, 0, 0), (.iconst 0, 0, 0, 0), (.aload_n 0, 0, 0, 0), (.iload_n 1, 0, 0, 0)] [] (q := 4) (L' := [some (.ref a0), some (.int b1), some (.ref a2), none]) (st' := [.int b1, .ref a0, .int (J 0), .ref a2]) (v1 := v) (by decide +kernel) rfl trivial ?_
  refine sim_grd fun h1 => ?_
  refine sim_catch1 (kA := 0) (x := ⟨0, 9, 12, 13⟩) (ok_gc_trueRate N a0 b1 S v) (cf_V (idx := 60) (ci := 5) [.int b1] m_gc_trueRate (by decide) ⟨by decide, by decide⟩ (List.mem_of_getElem? (i := 1412) (by decide +kernel)) rfl (Nat.le_of_ble_eq_true rfl) h1 (by decide +kernel) (Nat.le_of_ble_eq_true rfl) rfl) (fun _ => rfl) rfl (by decide) (by decide) (List.mem_of_getElem? (i := 1267) (by decide +kernel)) (by decide) ?_ (fun b _ => ?_)
  · intro r10
    refine sim_lt (x := skip S 6) ?_
    generalize skip S 6 = S9
    show SimK B_lw_trueRate 12 [some (.ref a0), some (.int b1), some (.ref a2), none] [.ref r10] S9 v _ _
    refine sim_seg [(.astore_n 3, 0, 0, 0)] [] (q := 13) (L' := [some (.ref a0), some (.int b1), some (.ref a2), some (.ref r10)]) (st' := []) (v1 := v) (by decide +kernel) rfl trivial ?_
    refine sim_seg [(.iconst 1, 0, 0, 1)] [] (q := 14) (L' := [some (.ref a0), some (.int b1), some (.ref a2), some (.ref r10)]) (st' := [.int (J 1)]) (v1 := v) (by decide +kernel) rfl trivial ?_
    exact sim_iret (by decide +kernel) rfl rfl rfl
  obtain ⟨x2, S3, w4⟩ := b
  refine ⟨some (.int x2), rfl, ?_⟩
  show SimK B_lw_trueRate 7 [some (.ref a0), some (.int b1), some (.ref a2), none] [.int x2, .int (J 0), .ref a2] S3 w4 _ _
  refine sim_grd fun h6 => ?_
  refine sim_grd fun h7 => ?_
  refine sim_seg [(.i2l, 0, 0, 0), (.lastore, 0, 0, 0), (.goto 6, 0, 0, 0), (.iconst 0, 0, 0, 0)] [] (q := 16) (L' := [some (.ref a0), some (.int b1), some (.ref a2), none]) (st' := [.int (J 0)]) (v1 := (sl w4 a2 0 (Int32.toInt64 x2))) (by decide +kernel) rfl ⟨⟨h6, h7⟩, trivial⟩ ?_
  refine sim_lt (x := (sl w4 a2 0 (Int32.toInt64 x2))) ?_
  generalize (sl w4 a2 0 (Int32.toInt64 x2)) = w8
  exact sim_iret (by decide +kernel) rfl rfl rfl
def B_lw_undo : bd := (⟨"GateCounterLaw", "undo", "(LGateCounter;[J)I"⟩, method_33_code, 3, (some .int), [(0, 8, 11, 111)], 15, 7)
theorem m_lw_undo : mX B_lw_undo 2 := ⟨⟨⟨by decide +kernel, Or.inr (by decide +kernel)⟩, rfl, (List.mem_of_getElem? (i := 1553) (by decide +kernel)), by decide +kernel, (List.mem_of_getElem? (i := 94) (by decide +kernel)), ⟨by decide, by decide⟩, by decide⟩, List.cons_ne_nil _ _, (by unfold nar; decide +kernel), (List.mem_of_getElem? (i := 1552) (by decide +kernel))⟩
noncomputable def F_lw_undo (N : Nat) (a0 : Nat) (a1 : Nat) (S : shp) (v : vl) : Option (Int32 × shp × vl) :=
  grd (kin S a0 = some (0, 5)) <| bx (F_gc_undo N a0 S v) (fun k0 => if k0 = 3 then lt (skip S 6) fun S9 => some (((J 1), S9, v)) else none) fun (x2, S3, w4) => grd (kin S3 a1 = some (3, alen S3 a1)) <| grd (vp_in (J 0) (alen S3 a1)) <| lt (sl w4 a1 0 (Int32.toInt64 x2)) fun w8 => some (((J 0), S3, w8))
theorem ok_lw_undo (N : Nat) (a0 : Nat) (a1 : Nat) (S : shp) (v : vl) : SimK B_lw_undo 0 (entB (bN B_lw_undo) [.ref a0, .ref a1]) [] S v (F_lw_undo N a0 a1 S v) (ρgi) := by
  show SimK B_lw_undo 0 [some (.ref a0), some (.ref a1), none] [] S v (F_lw_undo N a0 a1 S v) _
  unfold F_lw_undo
  refine sim_seg [(.aload_n 1, 0, 0, 0), (.iconst 0, 0, 0, 0), (.aload_n 0, 0, 0, 0)] [] (q := 3) (L' := [some (.ref a0), some (.ref a1), none]) (st' := [.ref a0, .int (J 0), .ref a1]) (v1 := v) (by decide +kernel) rfl trivial ?_
  refine sim_grd fun h1 => ?_
  refine sim_catch1 (kA := 3) (x := ⟨0, 8, 11, 111⟩) (ok_gc_undo N a0 S v) (cf_V (idx := 108) (ci := 5) [] m_gc_undo (by decide) ⟨by decide, by decide⟩ (List.mem_of_getElem? (i := 1555) (by decide +kernel)) rfl (Nat.le_of_ble_eq_true rfl) h1 (by decide +kernel) (Nat.le_of_ble_eq_true rfl) rfl) (fun _ => rfl) rfl (by decide) (by decide) (List.mem_of_getElem? (i := 1554) (by decide +kernel)) (by decide) ?_ (fun b _ => ?_)
  · intro r10
    refine sim_lt (x := skip S 6) ?_
    generalize skip S 6 = S9
    show SimK B_lw_undo 11 [some (.ref a0), some (.ref a1), none] [.ref r10] S9 v _ _
    refine sim_seg [(.astore_n 2, 0, 0, 0)] [] (q := 12) (L' := [some (.ref a0), some (.ref a1), some (.ref r10)]) (st' := []) (v1 := v) (by decide +kernel) rfl trivial ?_
    refine sim_seg [(.iconst 1, 0, 0, 1)] [] (q := 13) (L' := [some (.ref a0), some (.ref a1), some (.ref r10)]) (st' := [.int (J 1)]) (v1 := v) (by decide +kernel) rfl trivial ?_
    exact sim_iret (by decide +kernel) rfl rfl rfl
  obtain ⟨x2, S3, w4⟩ := b
  refine ⟨some (.int x2), rfl, ?_⟩
  show SimK B_lw_undo 6 [some (.ref a0), some (.ref a1), none] [.int x2, .int (J 0), .ref a1] S3 w4 _ _
  refine sim_grd fun h6 => ?_
  refine sim_grd fun h7 => ?_
  refine sim_seg [(.i2l, 0, 0, 0), (.lastore, 0, 0, 0), (.goto 6, 0, 0, 0), (.iconst 0, 0, 0, 0)] [] (q := 15) (L' := [some (.ref a0), some (.ref a1), none]) (st' := [.int (J 0)]) (v1 := (sl w4 a1 0 (Int32.toInt64 x2))) (by decide +kernel) rfl ⟨⟨h6, h7⟩, trivial⟩ ?_
  refine sim_lt (x := (sl w4 a1 0 (Int32.toInt64 x2))) ?_
  generalize (sl w4 a1 0 (Int32.toInt64 x2)) = w8
  exact sim_iret (by decide +kernel) rfl rfl rfl
def B_lw_valueWith : bd := (⟨"GateCounterLaw", "valueWith", "(LGateCounter;II[J)I"⟩, method_24_code, 5, (some .int), [(0, 10, 13, 25), (0, 10, 17, 13)], 15, 9)
theorem m_lw_valueWith : mX B_lw_valueWith 4 := ⟨⟨⟨by decide +kernel, Or.inr (by decide +kernel)⟩, rfl, (List.mem_of_getElem? (i := 1461) (by decide +kernel)), by decide +kernel, (List.mem_of_getElem? (i := 94) (by decide +kernel)), ⟨by decide, by decide⟩, by decide⟩, List.cons_ne_nil _ _, (by unfold nar; decide +kernel), (List.mem_of_getElem? (i := 1460) (by decide +kernel))⟩
noncomputable def F_lw_valueWith (a0 : Nat) (b1 : Int32) (b2 : Int32) (a3 : Nat) (S : shp) (v : vl) : Option (Int32 × shp × vl) :=
  grd (kin S a0 = some (0, 5)) <| bx (F_gc_valueWith a0 b1 b2 S v) (fun k0 => if k0 = 1 then lt (skip S 6) fun S6 => some (((J 1), S6, v)) else if k0 = 0 then lt (skip S 6) fun S8 => some (((J 2), S8, v)) else none) fun x2 => grd (kin S a3 = some (3, alen S a3)) <| grd (vp_in (J 0) (alen S a3)) <| lt (sl v a3 0 (Int32.toInt64 x2)) fun w5 => some (((J 0), S, w5))
theorem ok_lw_valueWith (a0 : Nat) (b1 : Int32) (b2 : Int32) (a3 : Nat) (S : shp) (v : vl) : SimK B_lw_valueWith 0 (entB (bN B_lw_valueWith) [.ref a0, .int b1, .int b2, .ref a3]) [] S v (F_lw_valueWith a0 b1 b2 a3 S v) (ρgi) := by
  show SimK B_lw_valueWith 0 [some (.ref a0), some (.int b1), some (.int b2), some (.ref a3), none] [] S v (F_lw_valueWith a0 b1 b2 a3 S v) _
  unfold F_lw_valueWith
  refine sim_seg [(.aload_n 3, 0, 0, 0), (.iconst 0, 0, 0, 0), (.aload_n 0, 0, 0, 0), (.iload_n 1, 0, 0, 0), (.iload_n 2, 0, 0, 0)] [] (q := 5) (L' := [some (.ref a0), some (.int b1), some (.int b2), some (.ref a3), none]) (st' := [.int b2, .int b1, .ref a0, .int (J 0), .ref a3]) (v1 := v) (by decide +kernel) rfl trivial ?_
  refine sim_grd fun h1 => ?_
  refine sim_catch2 (kA := 1) (kB := 0) (x := ⟨0, 10, 13, 25⟩) (y := ⟨0, 10, 17, 13⟩) (ok_gc_valueWith a0 b1 b2 S v) (cf_V (idx := 78) (ci := 5) [.int b1, .int b2] m_gc_valueWith (by decide) ⟨by decide, by decide⟩ (List.mem_of_getElem? (i := 1462) (by decide +kernel)) rfl (Nat.le_of_ble_eq_true rfl) h1 (by decide +kernel) (Nat.le_of_ble_eq_true rfl) rfl) (fun _ => rfl) rfl ⟨by decide, by decide⟩ ⟨by decide, by decide⟩ (List.mem_of_getElem? (i := 1286) (by decide +kernel)) (List.mem_of_getElem? (i := 1267) (by decide +kernel)) (by decide) ?_ ?_ (fun b _ => ?_)
  · intro r7
    refine sim_lt (x := skip S 6) ?_
    generalize skip S 6 = S6
    show SimK B_lw_valueWith 13 [some (.ref a0), some (.int b1), some (.int b2), some (.ref a3), none] [.ref r7] S6 v _ _
    refine sim_seg [(.astore 4, 0, 0, 0)] [] (q := 15) (L' := [some (.ref a0), some (.int b1), some (.int b2), some (.ref a3), some (.ref r7)]) (st' := []) (v1 := v) (by decide +kernel) rfl trivial ?_
    refine sim_seg [(.iconst 1, 0, 0, 1)] [] (q := 16) (L' := [some (.ref a0), some (.int b1), some (.int b2), some (.ref a3), some (.ref r7)]) (st' := [.int (J 1)]) (v1 := v) (by decide +kernel) rfl trivial ?_
    exact sim_iret (by decide +kernel) rfl rfl rfl
  · intro r9
    refine sim_lt (x := skip S 6) ?_
    generalize skip S 6 = S8
    show SimK B_lw_valueWith 17 [some (.ref a0), some (.int b1), some (.int b2), some (.ref a3), none] [.ref r9] S8 v _ _
    refine sim_seg [(.astore 4, 0, 0, 0)] [] (q := 19) (L' := [some (.ref a0), some (.int b1), some (.int b2), some (.ref a3), some (.ref r9)]) (st' := []) (v1 := v) (by decide +kernel) rfl trivial ?_
    refine sim_seg [(.iconst 2, 0, 0, 2)] [] (q := 20) (L' := [some (.ref a0), some (.int b1), some (.int b2), some (.ref a3), some (.ref r9)]) (st' := [.int (J 2)]) (v1 := v) (by decide +kernel) rfl trivial ?_
    exact sim_iret (by decide +kernel) rfl rfl rfl
  generalize b = x2
  refine ⟨some (.int x2), rfl, ?_⟩
  show SimK B_lw_valueWith 8 [some (.ref a0), some (.int b1), some (.int b2), some (.ref a3), none] [.int x2, .int (J 0), .ref a3] S v _ _
  refine sim_grd fun h3 => ?_
  refine sim_grd fun h4 => ?_
  refine sim_seg [(.i2l, 0, 0, 0), (.lastore, 0, 0, 0), (.goto 11, 0, 0, 0), (.iconst 0, 0, 0, 0)] [] (q := 22) (L' := [some (.ref a0), some (.int b1), some (.int b2), some (.ref a3), none]) (st' := [.int (J 0)]) (v1 := (sl v a3 0 (Int32.toInt64 x2))) (by decide +kernel) rfl ⟨⟨h3, h4⟩, trivial⟩ ?_
  refine sim_lt (x := (sl v a3 0 (Int32.toInt64 x2))) ?_
  generalize (sl v a3 0 (Int32.toInt64 x2)) = w5
  exact sim_iret (by decide +kernel) rfl rfl rfl
def B_lw_wobble : bd := (⟨"GateCounterLaw", "wobble", "(LGateCounter;I[J)I"⟩, method_14_code, 4, (some .int), [(0, 9, 12, 13)], 15, 9)
theorem m_lw_wobble : mX B_lw_wobble 3 := ⟨⟨⟨by decide +kernel, Or.inr (by decide +kernel)⟩, rfl, (List.mem_of_getElem? (i := 1377) (by decide +kernel)), by decide +kernel, (List.mem_of_getElem? (i := 94) (by decide +kernel)), ⟨by decide, by decide⟩, by decide⟩, List.cons_ne_nil _ _, (by unfold nar; decide +kernel), (List.mem_of_getElem? (i := 1376) (by decide +kernel))⟩
noncomputable def F_lw_wobble (N : Nat) (a0 : Nat) (b1 : Int32) (a2 : Nat) (S : shp) (v : vl) : Option (Int32 × shp × vl) :=
  grd (kin S a0 = some (0, 5)) <| bx (F_gc_wobble N a0 b1 S v) (fun k0 => if k0 = 0 then lt (skip S 6) fun S9 => some (((J 1), S9, v)) else none) fun (x2, S3, w4) => grd (kin S3 a2 = some (3, alen S3 a2)) <| grd (vp_in (J 0) (alen S3 a2)) <| lt (sl w4 a2 0 (Int32.toInt64 x2)) fun w8 => some (((J 0), S3, w8))
theorem ok_lw_wobble (N : Nat) (a0 : Nat) (b1 : Int32) (a2 : Nat) (S : shp) (v : vl) : SimK B_lw_wobble 0 (entB (bN B_lw_wobble) [.ref a0, .int b1, .ref a2]) [] S v (F_lw_wobble N a0 b1 a2 S v) (ρgi) := by
  show SimK B_lw_wobble 0 [some (.ref a0), some (.int b1), some (.ref a2), none] [] S v (F_lw_wobble N a0 b1 a2 S v) _
  unfold F_lw_wobble
  refine sim_seg [(.aload_n 2, 0, 0, 0), (.iconst 0, 0, 0, 0), (.aload_n 0, 0, 0, 0), (.iload_n 1, 0, 0, 0)] [] (q := 4) (L' := [some (.ref a0), some (.int b1), some (.ref a2), none]) (st' := [.int b1, .ref a0, .int (J 0), .ref a2]) (v1 := v) (by decide +kernel) rfl trivial ?_
  refine sim_grd fun h1 => ?_
  refine sim_catch1 (kA := 0) (x := ⟨0, 9, 12, 13⟩) (ok_gc_wobble N a0 b1 S v) (cf_V (idx := 48) (ci := 5) [.int b1] m_gc_wobble (by decide) ⟨by decide, by decide⟩ (List.mem_of_getElem? (i := 1378) (by decide +kernel)) rfl (Nat.le_of_ble_eq_true rfl) h1 (by decide +kernel) (Nat.le_of_ble_eq_true rfl) rfl) (fun _ => rfl) rfl (by decide) (by decide) (List.mem_of_getElem? (i := 1267) (by decide +kernel)) (by decide) ?_ (fun b _ => ?_)
  · intro r10
    refine sim_lt (x := skip S 6) ?_
    generalize skip S 6 = S9
    show SimK B_lw_wobble 12 [some (.ref a0), some (.int b1), some (.ref a2), none] [.ref r10] S9 v _ _
    refine sim_seg [(.astore_n 3, 0, 0, 0)] [] (q := 13) (L' := [some (.ref a0), some (.int b1), some (.ref a2), some (.ref r10)]) (st' := []) (v1 := v) (by decide +kernel) rfl trivial ?_
    refine sim_seg [(.iconst 1, 0, 0, 1)] [] (q := 14) (L' := [some (.ref a0), some (.int b1), some (.ref a2), some (.ref r10)]) (st' := [.int (J 1)]) (v1 := v) (by decide +kernel) rfl trivial ?_
    exact sim_iret (by decide +kernel) rfl rfl rfl
  obtain ⟨x2, S3, w4⟩ := b
  refine ⟨some (.int x2), rfl, ?_⟩
  show SimK B_lw_wobble 7 [some (.ref a0), some (.int b1), some (.ref a2), none] [.int x2, .int (J 0), .ref a2] S3 w4 _ _
  refine sim_grd fun h6 => ?_
  refine sim_grd fun h7 => ?_
  refine sim_seg [(.i2l, 0, 0, 0), (.lastore, 0, 0, 0), (.goto 6, 0, 0, 0), (.iconst 0, 0, 0, 0)] [] (q := 16) (L' := [some (.ref a0), some (.int b1), some (.ref a2), none]) (st' := [.int (J 0)]) (v1 := (sl w4 a2 0 (Int32.toInt64 x2))) (by decide +kernel) rfl ⟨⟨h6, h7⟩, trivial⟩ ?_
  refine sim_lt (x := (sl w4 a2 0 (Int32.toInt64 x2))) ?_
  generalize (sl w4 a2 0 (Int32.toInt64 x2)) = w8
  exact sim_iret (by decide +kernel) rfl rfl rfl
