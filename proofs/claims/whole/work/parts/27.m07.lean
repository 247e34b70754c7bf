/-! Methods: gc_outputsIn, gc_clocksIn, gc_driftIn, gc_timeOfEdge, gc_timeOfClock, gc_wobble, ck_edgesToDrift, gc_clocksTo, gc_byGate, gc_byPeriod, gc_trueRate, sg_longestGap, gc_longestSilence, gc_gateFor, gc_periodsFor, gc_gateNear. -/
def B_gc_outputsIn : bd := (⟨"GateCounter", "outputsIn", "(I)I"⟩, prog_1_method_18_code, 3, (some .int), [], 5, 8)
theorem m_gc_outputsIn : mV B_gc_outputsIn 5 1 := ⟨⟨⟨by decide +kernel, Or.inl rfl⟩, rfl, (List.mem_of_getElem? (i := 1343) (by decide +kernel)), by decide +kernel, (List.mem_of_getElem? (i := 95) (by decide +kernel)), ⟨by decide, by decide⟩, by decide⟩, rfl, (by unfold nar; decide +kernel), (List.mem_of_getElem? (i := 1341) (by decide +kernel)), rfl, (List.mem_of_getElem? (i := 1342) (by decide +kernel))⟩
noncomputable def F_gc_outputsIn (N : Nat) (a0 : Nat) (b1 : Int32) (S : shp) (v : vl) : Option (Nat ⊕ (Int32 × shp × vl)) :=
  bx (F_gc_requireWithin b1 (J 0) (J 100000) S v) (fun k0 => some (.inl k0)) fun _ => grd (kin S a0 = some (0, 5)) <| (gr S a0 6).bind fun r2 => (F_gc_fresh N a0 r2 S v).bind fun (q4, S5, w6) => oc2 q4 none fun r8 => grd (kin S5 r8 = some (0, 4)) <| (gr S5 r8 7).bind fun r10 => (gr S5 a0 5).bind fun r12 => grd (kin S5 r12 = some (0, 4)) <| grd (kin S5 r10 = some (0, 3)) <| (F_sg_passTo N r10 ((gi w6 r12 0) + b1) S5 w6).bind fun w16 => (gr S5 r12 7).bind fun r17 => grd (kin S5 r17 = some (0, 3)) <| some (.inr (((gi w16 r10 3) - (gi w16 r17 3)), S5, w16))
theorem ok_gc_outputsIn (N : Nat) (a0 : Nat) (b1 : Int32) (S : shp) (v : vl) : SimK B_gc_outputsIn 0 (entB (bN B_gc_outputsIn) [.ref a0, .int b1]) [] S v (F_gc_outputsIn N a0 b1 S v) (ρzi S v) := by
  show SimK B_gc_outputsIn 0 [some (.ref a0), some (.int b1), none] [] S v (F_gc_outputsIn N a0 b1 S v) _
  unfold F_gc_outputsIn
  refine sim_seg [(.iload_n 1, 0, 0, 0), (.iconst 0, 0, 0, 0), (.ldc 192, 0, 0, 100000)] [] (q := 4) (L' := [some (.ref a0), some (.int b1), none]) (st' := [.int (J 100000), .int (J 0), .int b1]) (v1 := v) (by decide +kernel) rfl trivial ?_
  refine sc_xv (pc3 := 7) (cf_S (idx := 170) [.int b1, .int (J 0), .int (J 100000)] m_gc_requireWithin ⟨by decide, by decide⟩ (List.mem_of_getElem? (i := 1321) (by decide +kernel)) rfl (Nat.le_of_ble_eq_true rfl) (by decide +kernel) (Nat.le_of_ble_eq_true rfl) rfl) (ok_gc_requireWithin b1 (J 0) (J 100000) S v) rfl rfl (fun k0 b hb => by cases hb; rfl) (fun _ => ?_)
  refine sim_grd fun h1 => ?_
  refine sim_bind fun r2 h3 => ?_
  refine sim_seg [(.aload_n 0, 0, 0, 0), (.aload_n 0, 0, 0, 0), (.getfield 30, 5, 6, 0)] [r2] (q := 12) (L' := [some (.ref a0), some (.int b1), none]) (st' := [.ref r2, .ref a0]) (v1 := v) (by decide +kernel) rfl ⟨⟨h1, h3⟩, trivial⟩ ?_
  refine sc_gq (pc3 := 15) (cf_V (idx := 196) (ci := 5) [.ref r2] m_gc_fresh (by decide) ⟨by decide, by decide⟩ (List.mem_of_getElem? (i := 645) (by decide +kernel)) rfl (Nat.le_of_ble_eq_true rfl) h1 (by decide +kernel) (Nat.le_of_ble_eq_true rfl) rfl) (ok_gc_fresh N a0 r2 S v) rfl (fun q4 S5 w6 h7 => ?_)
  refine sim_oc2 (fun _ => sim_none) (fun r8 _ => ?_)
  refine sim_grd fun h9 => ?_
  refine sim_bind fun r10 h11 => ?_
  refine sim_seg [(.getfield 69, 4, 7, 0), (.astore_n 2, 0, 0, 0)] [r10] (q := 19) (L' := [some (.ref a0), some (.int b1), some (.ref r10)]) (st' := []) (v1 := w6) (by decide +kernel) rfl ⟨⟨h9, h11⟩, trivial⟩ ?_
  refine sim_bind fun r12 h13 => ?_
  refine sim_grd fun h14 => ?_
  refine sim_seg [(.aload_n 2, 0, 0, 0), (.aload_n 0, 0, 0, 0), (.getfield 26, 5, 5, 0), (.getfield 84, 4, 0, 0), (.iload_n 1, 0, 0, 0), (.iadd, 0, 0, 0)] [r12] (q := 29) (L' := [some (.ref a0), some (.int b1), some (.ref r10)]) (st' := [.int ((gi w6 r12 0) + b1), .ref r10]) (v1 := w6) (by decide +kernel) rfl ⟨⟨(h7.2.2.2.2 _ _ h1), h13⟩, h14, trivial⟩ ?_
  refine sim_grd fun h15 => ?_
  refine sc_pv (pc3 := 32) (cf_V (idx := 200) (ci := 3) [.int ((gi w6 r12 0) + b1)] m_sg_passTo (by decide) ⟨by decide, by decide⟩ (List.mem_of_getElem? (i := 812) (by decide +kernel)) rfl (Nat.le_of_ble_eq_true rfl) h15 (by decide +kernel) (Nat.le_of_ble_eq_true rfl) rfl) (ok_sg_passTo N r10 ((gi w6 r12 0) + b1) S5 w6) rfl (fun w16 => ?_)
  refine sim_bind fun r17 h18 => ?_
  refine sim_grd fun h19 => ?_
  refine sim_seg [(.aload_n 2, 0, 0, 0), (.getfield 97, 3, 3, 0), (.aload_n 0, 0, 0, 0), (.getfield 26, 5, 5, 0), (.getfield 69, 4, 7, 0), (.getfield 97, 3, 3, 0), (.isub, 0, 0, 0)] [r12, r17] (q := 47) (L' := [some (.ref a0), some (.int b1), some (.ref r10)]) (st' := [.int ((gi w16 r10 3) - (gi w16 r17 3))]) (v1 := w16) (by decide +kernel) rfl ⟨h15, ⟨(h7.2.2.2.2 _ _ h1), h13⟩, ⟨h14, h18⟩, h19, trivial⟩ ?_
  exact sim_iret (by decide +kernel) rfl rfl rfl
def B_gc_clocksIn : bd := (⟨"GateCounter", "clocksIn", "(I)I"⟩, prog_1_method_19_code, 3, (some .int), [], 5, 8)
theorem m_gc_clocksIn : mV B_gc_clocksIn 5 1 := ⟨⟨⟨by decide +kernel, Or.inl rfl⟩, rfl, (List.mem_of_getElem? (i := 1350) (by decide +kernel)), by decide +kernel, (List.mem_of_getElem? (i := 95) (by decide +kernel)), ⟨by decide, by decide⟩, by decide⟩, rfl, (by unfold nar; decide +kernel), (List.mem_of_getElem? (i := 1348) (by decide +kernel)), rfl, (List.mem_of_getElem? (i := 1349) (by decide +kernel))⟩
noncomputable def F_gc_clocksIn (N : Nat) (a0 : Nat) (b1 : Int32) (S : shp) (v : vl) : Option (Nat ⊕ (Int32 × shp × vl)) :=
  bx (F_gc_requireWithin b1 (J 0) (J 100000) S v) (fun k0 => some (.inl k0)) fun _ => grd (kin S a0 = some (0, 5)) <| (gr S a0 6).bind fun r2 => (F_gc_fresh N a0 r2 S v).bind fun (q4, S5, w6) => oc2 q4 none fun r8 => grd (kin S5 r8 = some (0, 4)) <| (gr S5 r8 6).bind fun r10 => (gr S5 a0 5).bind fun r12 => grd (kin S5 r12 = some (0, 4)) <| grd (kin S5 r10 = some (0, 0)) <| (F_ck_passTo N r10 ((gi w6 r12 0) + b1) S5 w6).bind fun w16 => (gr S5 r12 6).bind fun r17 => grd (kin S5 r17 = some (0, 0)) <| some (.inr (((gi w16 r10 5) - (gi w16 r17 5)), S5, w16))
theorem ok_gc_clocksIn (N : Nat) (a0 : Nat) (b1 : Int32) (S : shp) (v : vl) : SimK B_gc_clocksIn 0 (entB (bN B_gc_clocksIn) [.ref a0, .int b1]) [] S v (F_gc_clocksIn N a0 b1 S v) (ρzi S v) := by
  show SimK B_gc_clocksIn 0 [some (.ref a0), some (.int b1), none] [] S v (F_gc_clocksIn N a0 b1 S v) _
  unfold F_gc_clocksIn
  refine sim_seg [(.iload_n 1, 0, 0, 0), (.iconst 0, 0, 0, 0), (.ldc 192, 0, 0, 100000)] [] (q := 4) (L' := [some (.ref a0), some (.int b1), none]) (st' := [.int (J 100000), .int (J 0), .int b1]) (v1 := v) (by decide +kernel) rfl trivial ?_
  refine sc_xv (pc3 := 7) (cf_S (idx := 170) [.int b1, .int (J 0), .int (J 100000)] m_gc_requireWithin ⟨by decide, by decide⟩ (List.mem_of_getElem? (i := 1321) (by decide +kernel)) rfl (Nat.le_of_ble_eq_true rfl) (by decide +kernel) (Nat.le_of_ble_eq_true rfl) rfl) (ok_gc_requireWithin b1 (J 0) (J 100000) S v) rfl rfl (fun k0 b hb => by cases hb; rfl) (fun _ => ?_)
  refine sim_grd fun h1 => ?_
  refine sim_bind fun r2 h3 => ?_
  refine sim_seg [(.aload_n 0, 0, 0, 0), (.aload_n 0, 0, 0, 0), (.getfield 30, 5, 6, 0)] [r2] (q := 12) (L' := [some (.ref a0), some (.int b1), none]) (st' := [.ref r2, .ref a0]) (v1 := v) (by decide +kernel) rfl ⟨⟨h1, h3⟩, trivial⟩ ?_
  refine sc_gq (pc3 := 15) (cf_V (idx := 196) (ci := 5) [.ref r2] m_gc_fresh (by decide) ⟨by decide, by decide⟩ (List.mem_of_getElem? (i := 645) (by decide +kernel)) rfl (Nat.le_of_ble_eq_true rfl) h1 (by decide +kernel) (Nat.le_of_ble_eq_true rfl) rfl) (ok_gc_fresh N a0 r2 S v) rfl (fun q4 S5 w6 h7 => ?_)
  refine sim_oc2 (fun _ => sim_none) (fun r8 _ => ?_)
  refine sim_grd fun h9 => ?_
  refine sim_bind fun r10 h11 => ?_
  refine sim_seg [(.getfield 87, 4, 6, 0), (.astore_n 2, 0, 0, 0)] [r10] (q := 19) (L' := [some (.ref a0), some (.int b1), some (.ref r10)]) (st' := []) (v1 := w6) (by decide +kernel) rfl ⟨⟨h9, h11⟩, trivial⟩ ?_
  refine sim_bind fun r12 h13 => ?_
  refine sim_grd fun h14 => ?_
  refine sim_seg [(.aload_n 2, 0, 0, 0), (.aload_n 0, 0, 0, 0), (.getfield 26, 5, 5, 0), (.getfield 84, 4, 0, 0), (.iload_n 1, 0, 0, 0), (.iadd, 0, 0, 0)] [r12] (q := 29) (L' := [some (.ref a0), some (.int b1), some (.ref r10)]) (st' := [.int ((gi w6 r12 0) + b1), .ref r10]) (v1 := w6) (by decide +kernel) rfl ⟨⟨(h7.2.2.2.2 _ _ h1), h13⟩, h14, trivial⟩ ?_
  refine sim_grd fun h15 => ?_
  refine sc_pv (pc3 := 32) (cf_V (idx := 203) (ci := 0) [.int ((gi w6 r12 0) + b1)] m_ck_passTo (by decide) ⟨by decide, by decide⟩ (List.mem_of_getElem? (i := 1351) (by decide +kernel)) rfl (Nat.le_of_ble_eq_true rfl) h15 (by decide +kernel) (Nat.le_of_ble_eq_true rfl) rfl) (ok_ck_passTo N r10 ((gi w6 r12 0) + b1) S5 w6) rfl (fun w16 => ?_)
  refine sim_bind fun r17 h18 => ?_
  refine sim_grd fun h19 => ?_
  refine sim_seg [(.aload_n 2, 0, 0, 0), (.getfield 91, 0, 5, 0), (.aload_n 0, 0, 0, 0), (.getfield 26, 5, 5, 0), (.getfield 87, 4, 6, 0), (.getfield 91, 0, 5, 0), (.isub, 0, 0, 0)] [r12, r17] (q := 47) (L' := [some (.ref a0), some (.int b1), some (.ref r10)]) (st' := [.int ((gi w16 r10 5) - (gi w16 r17 5))]) (v1 := w16) (by decide +kernel) rfl ⟨h15, ⟨(h7.2.2.2.2 _ _ h1), h13⟩, ⟨h14, h18⟩, h19, trivial⟩ ?_
  exact sim_iret (by decide +kernel) rfl rfl rfl
def B_gc_driftIn : bd := (⟨"GateCounter", "driftIn", "(I)I"⟩, prog_1_method_20_code, 3, (some .int), [], 5, 8)
theorem m_gc_driftIn : mV B_gc_driftIn 5 1 := ⟨⟨⟨by decide +kernel, Or.inl rfl⟩, rfl, (List.mem_of_getElem? (i := 1358) (by decide +kernel)), by decide +kernel, (List.mem_of_getElem? (i := 95) (by decide +kernel)), ⟨by decide, by decide⟩, by decide⟩, rfl, (by unfold nar; decide +kernel), (List.mem_of_getElem? (i := 1356) (by decide +kernel)), rfl, (List.mem_of_getElem? (i := 1357) (by decide +kernel))⟩
noncomputable def F_gc_driftIn (N : Nat) (a0 : Nat) (b1 : Int32) (S : shp) (v : vl) : Option (Nat ⊕ (Int32 × shp × vl)) :=
  bx (F_gc_requireWithin b1 (J 0) (J 100000) S v) (fun k0 => some (.inl k0)) fun _ => grd (kin S a0 = some (0, 5)) <| (gr S a0 6).bind fun r2 => (F_gc_fresh N a0 r2 S v).bind fun (q4, S5, w6) => oc2 q4 none fun r8 => grd (kin S5 r8 = some (0, 4)) <| (gr S5 r8 6).bind fun r10 => (gr S5 a0 5).bind fun r12 => grd (kin S5 r12 = some (0, 4)) <| grd (kin S5 r10 = some (0, 0)) <| (F_ck_passTo N r10 ((gi w6 r12 0) + b1) S5 w6).bind fun w16 => some (.inr ((gi w16 r10 1), S5, w16))
theorem ok_gc_driftIn (N : Nat) (a0 : Nat) (b1 : Int32) (S : shp) (v : vl) : SimK B_gc_driftIn 0 (entB (bN B_gc_driftIn) [.ref a0, .int b1]) [] S v (F_gc_driftIn N a0 b1 S v) (ρzi S v) := by
  show SimK B_gc_driftIn 0 [some (.ref a0), some (.int b1), none] [] S v (F_gc_driftIn N a0 b1 S v) _
  unfold F_gc_driftIn
  refine sim_seg [(.iload_n 1, 0, 0, 0), (.iconst 0, 0, 0, 0), (.ldc 192, 0, 0, 100000)] [] (q := 4) (L' := [some (.ref a0), some (.int b1), none]) (st' := [.int (J 100000), .int (J 0), .int b1]) (v1 := v) (by decide +kernel) rfl trivial ?_
  refine sc_xv (pc3 := 7) (cf_S (idx := 170) [.int b1, .int (J 0), .int (J 100000)] m_gc_requireWithin ⟨by decide, by decide⟩ (List.mem_of_getElem? (i := 1321) (by decide +kernel)) rfl (Nat.le_of_ble_eq_true rfl) (by decide +kernel) (Nat.le_of_ble_eq_true rfl) rfl) (ok_gc_requireWithin b1 (J 0) (J 100000) S v) rfl rfl (fun k0 b hb => by cases hb; rfl) (fun _ => ?_)
  refine sim_grd fun h1 => ?_
  refine sim_bind fun r2 h3 => ?_
  refine sim_seg [(.aload_n 0, 0, 0, 0), (.aload_n 0, 0, 0, 0), (.getfield 30, 5, 6, 0)] [r2] (q := 12) (L' := [some (.ref a0), some (.int b1), none]) (st' := [.ref r2, .ref a0]) (v1 := v) (by decide +kernel) rfl ⟨⟨h1, h3⟩, trivial⟩ ?_
  refine sc_gq (pc3 := 15) (cf_V (idx := 196) (ci := 5) [.ref r2] m_gc_fresh (by decide) ⟨by decide, by decide⟩ (List.mem_of_getElem? (i := 645) (by decide +kernel)) rfl (Nat.le_of_ble_eq_true rfl) h1 (by decide +kernel) (Nat.le_of_ble_eq_true rfl) rfl) (ok_gc_fresh N a0 r2 S v) rfl (fun q4 S5 w6 h7 => ?_)
  refine sim_oc2 (fun _ => sim_none) (fun r8 _ => ?_)
  refine sim_grd fun h9 => ?_
  refine sim_bind fun r10 h11 => ?_
  refine sim_seg [(.getfield 87, 4, 6, 0), (.astore_n 2, 0, 0, 0)] [r10] (q := 19) (L' := [some (.ref a0), some (.int b1), some (.ref r10)]) (st' := []) (v1 := w6) (by decide +kernel) rfl ⟨⟨h9, h11⟩, trivial⟩ ?_
  refine sim_bind fun r12 h13 => ?_
  refine sim_grd fun h14 => ?_
  refine sim_seg [(.aload_n 2, 0, 0, 0), (.aload_n 0, 0, 0, 0), (.getfield 26, 5, 5, 0), (.getfield 84, 4, 0, 0), (.iload_n 1, 0, 0, 0), (.iadd, 0, 0, 0)] [r12] (q := 29) (L' := [some (.ref a0), some (.int b1), some (.ref r10)]) (st' := [.int ((gi w6 r12 0) + b1), .ref r10]) (v1 := w6) (by decide +kernel) rfl ⟨⟨(h7.2.2.2.2 _ _ h1), h13⟩, h14, trivial⟩ ?_
  refine sim_grd fun h15 => ?_
  refine sc_pv (pc3 := 32) (cf_V (idx := 203) (ci := 0) [.int ((gi w6 r12 0) + b1)] m_ck_passTo (by decide) ⟨by decide, by decide⟩ (List.mem_of_getElem? (i := 1351) (by decide +kernel)) rfl (Nat.le_of_ble_eq_true rfl) h15 (by decide +kernel) (Nat.le_of_ble_eq_true rfl) rfl) (ok_ck_passTo N r10 ((gi w6 r12 0) + b1) S5 w6) rfl (fun w16 => ?_)
  refine sim_seg [(.aload_n 2, 0, 0, 0), (.getfield 115, 0, 1, 0)] [] (q := 36) (L' := [some (.ref a0), some (.int b1), some (.ref r10)]) (st' := [.int (gi w16 r10 1)]) (v1 := w16) (by decide +kernel) rfl ⟨h15, trivial⟩ ?_
  exact sim_iret (by decide +kernel) rfl rfl rfl
def B_gc_timeOfEdge : bd := (⟨"GateCounter", "timeOfEdge", "(I)I"⟩, prog_1_method_23_code, 2, (some .int), [], 5, 8)
theorem m_gc_timeOfEdge : mV B_gc_timeOfEdge 5 1 := ⟨⟨⟨by decide +kernel, Or.inl rfl⟩, rfl, (List.mem_of_getElem? (i := 1365) (by decide +kernel)), by decide +kernel, (List.mem_of_getElem? (i := 95) (by decide +kernel)), ⟨by decide, by decide⟩, by decide⟩, rfl, (by unfold nar; decide +kernel), (List.mem_of_getElem? (i := 1363) (by decide +kernel)), rfl, (List.mem_of_getElem? (i := 1364) (by decide +kernel))⟩
noncomputable def F_gc_timeOfEdge (N : Nat) (a0 : Nat) (b1 : Int32) (S : shp) (v : vl) : Option (Nat ⊕ Int32) :=
  bx (F_gc_requireWithin b1 (J 1) (J 1000) S v) (fun k0 => some (.inl k0)) fun _ => grd (kin S a0 = some (0, 5)) <| (gr S a0 5).bind fun r2 => grd (kin S r2 = some (0, 4)) <| (gr S r2 7).bind fun r5 => grd (kin S r5 = some (0, 3)) <| (F_sg_timeAfter N r5 b1 S v).bind fun x8 => some (.inr x8)
theorem ok_gc_timeOfEdge (N : Nat) (a0 : Nat) (b1 : Int32) (S : shp) (v : vl) : SimK B_gc_timeOfEdge 0 (entB (bN B_gc_timeOfEdge) [.ref a0, .int b1]) [] S v (F_gc_timeOfEdge N a0 b1 S v) (ρxi S v) := by
  show SimK B_gc_timeOfEdge 0 [some (.ref a0), some (.int b1)] [] S v (F_gc_timeOfEdge N a0 b1 S v) _
  unfold F_gc_timeOfEdge
  refine sim_seg [(.iload_n 1, 0, 0, 0), (.iconst 1, 0, 0, 1), (.sipush 1000, 0, 0, 1000)] [] (q := 5) (L' := [some (.ref a0), some (.int b1)]) (st' := [.int (J 1000), .int (J 1), .int b1]) (v1 := v) (by decide +kernel) rfl trivial ?_
  refine sc_xv (pc3 := 8) (cf_S (idx := 170) [.int b1, .int (J 1), .int (J 1000)] m_gc_requireWithin ⟨by decide, by decide⟩ (List.mem_of_getElem? (i := 1321) (by decide +kernel)) rfl (Nat.le_of_ble_eq_true rfl) (by decide +kernel) (Nat.le_of_ble_eq_true rfl) rfl) (ok_gc_requireWithin b1 (J 1) (J 1000) S v) rfl rfl (fun k0 b hb => by cases hb; rfl) (fun _ => ?_)
  refine sim_grd fun h1 => ?_
  refine sim_bind fun r2 h3 => ?_
  refine sim_grd fun h4 => ?_
  refine sim_bind fun r5 h6 => ?_
  refine sim_seg [(.aload_n 0, 0, 0, 0), (.getfield 26, 5, 5, 0), (.getfield 69, 4, 7, 0), (.iload_n 1, 0, 0, 0)] [r2, r5] (q := 16) (L' := [some (.ref a0), some (.int b1)]) (st' := [.int b1, .ref r5]) (v1 := v) (by decide +kernel) rfl ⟨⟨h1, h3⟩, ⟨h4, h6⟩, trivial⟩ ?_
  refine sim_grd fun h7 => ?_
  refine sc_ri (pc3 := 19) (cf_V (idx := 207) (ci := 3) [.int b1] m_sg_timeAfter (by decide) ⟨by decide, by decide⟩ (List.mem_of_getElem? (i := 1366) (by decide +kernel)) rfl (Nat.le_of_ble_eq_true rfl) h7 (by decide +kernel) (Nat.le_of_ble_eq_true rfl) rfl) (ok_sg_timeAfter N r5 b1 S v) rfl (fun x8 => ?_)
  exact sim_iret (by decide +kernel) rfl rfl rfl
def B_gc_timeOfClock : bd := (⟨"GateCounter", "timeOfClock", "(I)I"⟩, prog_1_method_24_code, 3, (some .int), [], 5, 8)
theorem m_gc_timeOfClock : mV B_gc_timeOfClock 5 1 := ⟨⟨⟨by decide +kernel, Or.inl rfl⟩, rfl, (List.mem_of_getElem? (i := 1373) (by decide +kernel)), by decide +kernel, (List.mem_of_getElem? (i := 95) (by decide +kernel)), ⟨by decide, by decide⟩, by decide⟩, rfl, (by unfold nar; decide +kernel), (List.mem_of_getElem? (i := 1371) (by decide +kernel)), rfl, (List.mem_of_getElem? (i := 1372) (by decide +kernel))⟩
noncomputable def F_gc_timeOfClock (N : Nat) (a0 : Nat) (b1 : Int32) (S : shp) (v : vl) : Option (Nat ⊕ (Int32 × shp × vl)) :=
  bx (F_gc_requireWithin b1 (J 1) (J 1000) S v) (fun k0 => some (.inl k0)) fun _ => grd (kin S a0 = some (0, 5)) <| (gr S a0 6).bind fun r2 => (F_gc_fresh N a0 r2 S v).bind fun (q4, S5, w6) => oc2 q4 none fun r8 => grd (kin S5 r8 = some (0, 4)) <| (gr S5 r8 6).bind fun r10 => grd (kin S5 r10 = some (0, 0)) <| (F_ck_passEdges N r10 b1 S5 w6).bind fun w13 => (if (J 2000000) < (gi w13 r10 6) then some (.inr ((J (-1)), S5, w13)) else some (.inr ((gi w13 r10 6), S5, w13)))
theorem ok_gc_timeOfClock (N : Nat) (a0 : Nat) (b1 : Int32) (S : shp) (v : vl) : SimK B_gc_timeOfClock 0 (entB (bN B_gc_timeOfClock) [.ref a0, .int b1]) [] S v (F_gc_timeOfClock N a0 b1 S v) (ρzi S v) := by
  show SimK B_gc_timeOfClock 0 [some (.ref a0), some (.int b1), none] [] S v (F_gc_timeOfClock N a0 b1 S v) _
  unfold F_gc_timeOfClock
  refine sim_seg [(.iload_n 1, 0, 0, 0), (.iconst 1, 0, 0, 1), (.sipush 1000, 0, 0, 1000)] [] (q := 5) (L' := [some (.ref a0), some (.int b1), none]) (st' := [.int (J 1000), .int (J 1), .int b1]) (v1 := v) (by decide +kernel) rfl trivial ?_
  refine sc_xv (pc3 := 8) (cf_S (idx := 170) [.int b1, .int (J 1), .int (J 1000)] m_gc_requireWithin ⟨by decide, by decide⟩ (List.mem_of_getElem? (i := 1321) (by decide +kernel)) rfl (Nat.le_of_ble_eq_true rfl) (by decide +kernel) (Nat.le_of_ble_eq_true rfl) rfl) (ok_gc_requireWithin b1 (J 1) (J 1000) S v) rfl rfl (fun k0 b hb => by cases hb; rfl) (fun _ => ?_)
  refine sim_grd fun h1 => ?_
  refine sim_bind fun r2 h3 => ?_
  refine sim_seg [(.aload_n 0, 0, 0, 0), (.aload_n 0, 0, 0, 0), (.getfield 30, 5, 6, 0)] [r2] (q := 13) (L' := [some (.ref a0), some (.int b1), none]) (st' := [.ref r2, .ref a0]) (v1 := v) (by decide +kernel) rfl ⟨⟨h1, h3⟩, trivial⟩ ?_
  refine sc_gq (pc3 := 16) (cf_V (idx := 196) (ci := 5) [.ref r2] m_gc_fresh (by decide) ⟨by decide, by decide⟩ (List.mem_of_getElem? (i := 645) (by decide +kernel)) rfl (Nat.le_of_ble_eq_true rfl) h1 (by decide +kernel) (Nat.le_of_ble_eq_true rfl) rfl) (ok_gc_fresh N a0 r2 S v) rfl (fun q4 S5 w6 h7 => ?_)
  refine sim_oc2 (fun _ => sim_none) (fun r8 _ => ?_)
  refine sim_grd fun h9 => ?_
  refine sim_bind fun r10 h11 => ?_
  refine sim_seg [(.getfield 87, 4, 6, 0), (.astore_n 2, 0, 0, 0)] [r10] (q := 20) (L' := [some (.ref a0), some (.int b1), some (.ref r10)]) (st' := []) (v1 := w6) (by decide +kernel) rfl ⟨⟨h9, h11⟩, trivial⟩ ?_
  refine sim_seg [(.aload_n 2, 0, 0, 0), (.iload_n 1, 0, 0, 0)] [] (q := 22) (L' := [some (.ref a0), some (.int b1), some (.ref r10)]) (st' := [.int b1, .ref r10]) (v1 := w6) (by decide +kernel) rfl trivial ?_
  refine sim_grd fun h12 => ?_
  refine sc_pv (pc3 := 25) (cf_V (idx := 210) (ci := 0) [.int b1] m_ck_passEdges (by decide) ⟨by decide, by decide⟩ (List.mem_of_getElem? (i := 1374) (by decide +kernel)) rfl (Nat.le_of_ble_eq_true rfl) h12 (by decide +kernel) (Nat.le_of_ble_eq_true rfl) rfl) (ok_ck_passEdges N r10 b1 S5 w6) rfl (fun w13 => ?_)
  refine sim_seg [(.aload_n 2, 0, 0, 0), (.getfield 213, 0, 6, 0), (.ldc 216, 0, 0, 2000000)] [] (q := 31) (L' := [some (.ref a0), some (.int b1), some (.ref r10)]) (st' := [.int (J 2000000), .int (gi w13 r10 6)]) (v1 := w13) (by decide +kernel) rfl ⟨h12, trivial⟩ ?_
  refine sim_le (o := 7) (tg := 38) (f := 34) (by decide +kernel) rfl rfl (fun _ => ?_) (fun _ => ?_)
  · refine sim_seg [(.iconst (-1), 0, 0, (-1)), (.goto 7, 0, 0, 0)] [] (q := 42) (L' := [some (.ref a0), some (.int b1), some (.ref r10)]) (st' := [.int (J (-1))]) (v1 := w13) (by decide +kernel) rfl trivial ?_
    exact sim_iret (by decide +kernel) rfl rfl rfl
  · refine sim_seg [(.aload_n 2, 0, 0, 0), (.getfield 213, 0, 6, 0)] [] (q := 42) (L' := [some (.ref a0), some (.int b1), some (.ref r10)]) (st' := [.int (gi w13 r10 6)]) (v1 := w13) (by decide +kernel) rfl ⟨h12, trivial⟩ ?_
    exact sim_iret (by decide +kernel) rfl rfl rfl
def B_gc_wobble : bd := (⟨"GateCounter", "wobble", "(I)I"⟩, prog_1_method_25_code, 7, (some .int), [], 5, 8)
theorem m_gc_wobble : mV B_gc_wobble 5 1 := ⟨⟨⟨by decide +kernel, Or.inl rfl⟩, rfl, (List.mem_of_getElem? (i := 1381) (by decide +kernel)), by decide +kernel, (List.mem_of_getElem? (i := 95) (by decide +kernel)), ⟨by decide, by decide⟩, by decide⟩, rfl, (by unfold nar; decide +kernel), (List.mem_of_getElem? (i := 1379) (by decide +kernel)), rfl, (List.mem_of_getElem? (i := 1380) (by decide +kernel))⟩
noncomputable def Y_gc_wobble_33 (N : Nat)  (i33 : shp → vl → Int32 → Nat → Int32 → Int32 → Int32 → Option (Nat ⊕ (Int32 × shp × vl)))  (S : shp) (v : vl) (p1 : Int32) (p2 : Nat) (p3 : Int32) (p4 : Int32) (p5 : Int32) : Option (Nat ⊕ (Int32 × shp × vl)) :=
  (if p5 < p1 then grd (kin S p2 = some (0, 0)) <| (F_ck_tick p2 S v).bind fun w15 => (F_ma_min p3 ((gi w15 p2 6) - (gi v p2 6)) S w15).bind fun x16 => (F_ma_max p4 ((gi w15 p2 6) - (gi v p2 6)) S w15).bind fun x17 => i33 S w15 p1 p2 x16 x17 (p5 + (J 1)) else grd (kin S p2 = some (0, 0)) <| (if (J 2000000) < (gi v p2 6) then some (.inr ((J (-1)), S, v)) else some (.inr ((p4 - p3), S, v))))
noncomputable def K_gc_wobble_33 (N : Nat)  (n : Nat)  : shp → vl → Int32 → Nat → Int32 → Int32 → Int32 → Option (Nat ⊕ (Int32 × shp × vl)) :=
  Nat.rec (motive := fun _ => shp → vl → Int32 → Nat → Int32 → Int32 → Int32 → Option (Nat ⊕ (Int32 × shp × vl))) (fun _ _ _ _ _ _ _ => none) (fun _ i => Y_gc_wobble_33 N  i ) n
theorem sY_gc_wobble_33 (N : Nat) (S0 : shp) (v0 : vl)  (i33 : shp → vl → Int32 → Nat → Int32 → Int32 → Int32 → Option (Nat ⊕ (Int32 × shp × vl)))   (j33 : ∀ (S : shp) (v : vl) (p1 : Int32) (p2 : Nat) (p3 : Int32) (p4 : Int32) (p5 : Int32), SimK B_gc_wobble 33 [none, some (.int p1), some (.ref p2), some (.int p3), some (.int p4), some (.int p5), none] [] S v (i33 S v p1 p2 p3 p4 p5) (ρzi S0 v0)) (S : shp) (v : vl) (p1 : Int32) (p2 : Nat) (p3 : Int32) (p4 : Int32) (p5 : Int32) : SimK B_gc_wobble 33 [none, some (.int p1), some (.ref p2), some (.int p3), some (.int p4), some (.int p5), none] [] S v (Y_gc_wobble_33 N  i33  S v p1 p2 p3 p4 p5) (ρzi S0 v0) := by
  unfold Y_gc_wobble_33
  refine sim_seg [(.iload 5, 0, 0, 0), (.iload_n 1, 0, 0, 0)] [] (q := 36) (L' := [none, some (.int p1), some (.ref p2), some (.int p3), some (.int p4), some (.int p5), none]) (st' := [.int p1, .int p5]) (v1 := v) (by decide +kernel) rfl trivial ?_
  refine sim_ge (o := 45) (tg := 81) (f := 39) (by decide +kernel) rfl rfl (fun _ => ?_) (fun _ => ?_)
  · refine sim_grd fun h14 => ?_
    refine sim_seg [(.aload_n 2, 0, 0, 0), (.getfield 213, 0, 6, 0), (.istore 6, 0, 0, 0)] [] (q := 45) (L' := [none, some (.int p1), some (.ref p2), some (.int p3), some (.int p4), some (.int p5), some (.int (gi v p2 6))]) (st' := []) (v1 := v) (by decide +kernel) rfl ⟨h14, trivial⟩ ?_
    refine sim_seg [(.aload_n 2, 0, 0, 0)] [] (q := 46) (L' := [none, some (.int p1), some (.ref p2), some (.int p3), some (.int p4), some (.int p5), some (.int (gi v p2 6))]) (st' := [.ref p2]) (v1 := v) (by decide +kernel) rfl trivial ?_
    refine sc_pv (pc3 := 49) (cf_V (idx := 217) (ci := 0) [] m_ck_tick (by decide) ⟨by decide, by decide⟩ (List.mem_of_getElem? (i := 1382) (by decide +kernel)) rfl (Nat.le_of_ble_eq_true rfl) h14 (by decide +kernel) (Nat.le_of_ble_eq_true rfl) rfl) (ok_ck_tick p2 S v) rfl (fun w15 => ?_)
    refine sim_seg [(.iload_n 3, 0, 0, 0), (.aload_n 2, 0, 0, 0), (.getfield 213, 0, 6, 0), (.iload 6, 0, 0, 0), (.isub, 0, 0, 0)] [] (q := 57) (L' := [none, some (.int p1), some (.ref p2), some (.int p3), some (.int p4), some (.int p5), some (.int (gi v p2 6))]) (st' := [.int ((gi w15 p2 6) - (gi v p2 6)), .int p3]) (v1 := w15) (by decide +kernel) rfl ⟨h14, trivial⟩ ?_
    refine sc_ri (pc3 := 60) (cf_S (idx := 220) [.int p3, .int ((gi w15 p2 6) - (gi v p2 6))] m_ma_min ⟨by decide, by decide⟩ (List.mem_of_getElem? (i := 692) (by decide +kernel)) rfl (Nat.le_of_ble_eq_true rfl) (by decide +kernel) (Nat.le_of_ble_eq_true rfl) rfl) (ok_ma_min p3 ((gi w15 p2 6) - (gi v p2 6)) S w15) rfl (fun x16 => ?_)
    refine sim_seg [(.istore_n 3, 0, 0, 0)] [] (q := 61) (L' := [none, some (.int p1), some (.ref p2), some (.int x16), some (.int p4), some (.int p5), some (.int (gi v p2 6))]) (st' := []) (v1 := w15) (by decide +kernel) rfl trivial ?_
    refine sim_seg [(.iload 4, 0, 0, 0), (.aload_n 2, 0, 0, 0), (.getfield 213, 0, 6, 0), (.iload 6, 0, 0, 0), (.isub, 0, 0, 0)] [] (q := 70) (L' := [none, some (.int p1), some (.ref p2), some (.int x16), some (.int p4), some (.int p5), some (.int (gi v p2 6))]) (st' := [.int ((gi w15 p2 6) - (gi v p2 6)), .int p4]) (v1 := w15) (by decide +kernel) rfl ⟨h14, trivial⟩ ?_
    refine sc_ri (pc3 := 73) (cf_S (idx := 226) [.int p4, .int ((gi w15 p2 6) - (gi v p2 6))] m_ma_max ⟨by decide, by decide⟩ (List.mem_of_getElem? (i := 695) (by decide +kernel)) rfl (Nat.le_of_ble_eq_true rfl) (by decide +kernel) (Nat.le_of_ble_eq_true rfl) rfl) (ok_ma_max p4 ((gi w15 p2 6) - (gi v p2 6)) S w15) rfl (fun x17 => ?_)
    refine sim_seg [(.istore 4, 0, 0, 0)] [] (q := 75) (L' := [none, some (.int p1), some (.ref p2), some (.int x16), some (.int x17), some (.int p5), some (.int (gi v p2 6))]) (st' := []) (v1 := w15) (by decide +kernel) rfl trivial ?_
    refine sim_seg [(.iinc 5 1, 0, 0, 1)] [] (q := 78) (L' := [none, some (.int p1), some (.ref p2), some (.int x16), some (.int x17), some (.int (p5 + (J 1))), some (.int (gi v p2 6))]) (st' := []) (v1 := w15) (by decide +kernel) rfl trivial ?_
    refine sim_seg [(.goto (-45), 0, 0, 0)] [] (q := 33) (L' := [none, some (.int p1), some (.ref p2), some (.int x16), some (.int x17), some (.int (p5 + (J 1))), some (.int (gi v p2 6))]) (st' := []) (v1 := w15) (by decide +kernel) rfl trivial ?_
    exact sim_wk (L0 := [none, some (.int p1), some (.ref p2), some (.int x16), some (.int x17), some (.int (p5 + (J 1))), none]) ⟨rfl, rfl, rfl, rfl, rfl, trivial⟩ (j33 S w15 p1 p2 x16 x17 (p5 + (J 1)))
  · refine sim_grd fun h18 => ?_
    refine sim_seg [(.aload_n 2, 0, 0, 0), (.getfield 213, 0, 6, 0), (.ldc 216, 0, 0, 2000000)] [] (q := 87) (L' := [none, some (.int p1), some (.ref p2), some (.int p3), some (.int p4), some (.int p5), none]) (st' := [.int (J 2000000), .int (gi v p2 6)]) (v1 := v) (by decide +kernel) rfl ⟨h18, trivial⟩ ?_
    refine sim_le (o := 7) (tg := 94) (f := 90) (by decide +kernel) rfl rfl (fun _ => ?_) (fun _ => ?_)
    · refine sim_seg [(.iconst (-1), 0, 0, (-1)), (.goto 7, 0, 0, 0)] [] (q := 98) (L' := [none, some (.int p1), some (.ref p2), some (.int p3), some (.int p4), some (.int p5), none]) (st' := [.int (J (-1))]) (v1 := v) (by decide +kernel) rfl trivial ?_
      exact sim_iret (by decide +kernel) rfl rfl rfl
    · refine sim_seg [(.iload 4, 0, 0, 0), (.iload_n 3, 0, 0, 0), (.isub, 0, 0, 0)] [] (q := 98) (L' := [none, some (.int p1), some (.ref p2), some (.int p3), some (.int p4), some (.int p5), none]) (st' := [.int (p4 - p3)]) (v1 := v) (by decide +kernel) rfl trivial ?_
      exact sim_iret (by decide +kernel) rfl rfl rfl
theorem sR_gc_wobble_33 (N : Nat) (S0 : shp) (v0 : vl)    (n : Nat) : ∀ (S : shp) (v : vl) (p1 : Int32) (p2 : Nat) (p3 : Int32) (p4 : Int32) (p5 : Int32), SimK B_gc_wobble 33 [none, some (.int p1), some (.ref p2), some (.int p3), some (.int p4), some (.int p5), none] [] S v (K_gc_wobble_33 N  n  S v p1 p2 p3 p4 p5) (ρzi S0 v0) := by
  induction n with
  | zero => intro S v p1 p2 p3 p4 p5; exact sim_none
  | succ k ih => intro S v p1 p2 p3 p4 p5; exact sY_gc_wobble_33 N S0 v0  _   ih S v p1 p2 p3 p4 p5
theorem sK_gc_wobble_33 (N : Nat) (S0 : shp) (v0 : vl)   (n : Nat) (S : shp) (v : vl) (p1 : Int32) (p2 : Nat) (p3 : Int32) (p4 : Int32) (p5 : Int32) : SimK B_gc_wobble 33 [none, some (.int p1), some (.ref p2), some (.int p3), some (.int p4), some (.int p5), none] [] S v (K_gc_wobble_33 N  n  S v p1 p2 p3 p4 p5) (ρzi S0 v0) := sR_gc_wobble_33 N S0 v0   n  S v p1 p2 p3 p4 p5
noncomputable def F_gc_wobble (N : Nat) (a0 : Nat) (b1 : Int32) (S : shp) (v : vl) : Option (Nat ⊕ (Int32 × shp × vl)) :=
  bx (F_gc_requireWithin b1 (J 1) (J 1000) S v) (fun k0 => some (.inl k0)) fun _ => grd (kin S a0 = some (0, 5)) <| (gr S a0 6).bind fun r2 => (F_gc_fresh N a0 r2 S v).bind fun (q4, S5, w6) => oc2 q4 none fun r8 => grd (kin S5 r8 = some (0, 4)) <| (gr S5 r8 6).bind fun r10 => grd (kin S5 r10 = some (0, 0)) <| (F_ck_tick r10 S5 w6).bind fun w13 => K_gc_wobble_33 N  N S5 w13 b1 r10 (J 2000000) (J 0) (J 0)
theorem ok_gc_wobble (N : Nat) (a0 : Nat) (b1 : Int32) (S : shp) (v : vl) : SimK B_gc_wobble 0 (entB (bN B_gc_wobble) [.ref a0, .int b1]) [] S v (F_gc_wobble N a0 b1 S v) (ρzi S v) := by
  show SimK B_gc_wobble 0 [some (.ref a0), some (.int b1), none, none, none, none, none] [] S v (F_gc_wobble N a0 b1 S v) _
  unfold F_gc_wobble
  refine sim_seg [(.iload_n 1, 0, 0, 0), (.iconst 1, 0, 0, 1), (.sipush 1000, 0, 0, 1000)] [] (q := 5) (L' := [some (.ref a0), some (.int b1), none, none, none, none, none]) (st' := [.int (J 1000), .int (J 1), .int b1]) (v1 := v) (by decide +kernel) rfl trivial ?_
  refine sc_xv (pc3 := 8) (cf_S (idx := 170) [.int b1, .int (J 1), .int (J 1000)] m_gc_requireWithin ⟨by decide, by decide⟩ (List.mem_of_getElem? (i := 1321) (by decide +kernel)) rfl (Nat.le_of_ble_eq_true rfl) (by decide +kernel) (Nat.le_of_ble_eq_true rfl) rfl) (ok_gc_requireWithin b1 (J 1) (J 1000) S v) rfl rfl (fun k0 b hb => by cases hb; rfl) (fun _ => ?_)
  refine sim_grd fun h1 => ?_
  refine sim_bind fun r2 h3 => ?_
  refine sim_seg [(.aload_n 0, 0, 0, 0), (.aload_n 0, 0, 0, 0), (.getfield 30, 5, 6, 0)] [r2] (q := 13) (L' := [some (.ref a0), some (.int b1), none, none, none, none, none]) (st' := [.ref r2, .ref a0]) (v1 := v) (by decide +kernel) rfl ⟨⟨h1, h3⟩, trivial⟩ ?_
  refine sc_gq (pc3 := 16) (cf_V (idx := 196) (ci := 5) [.ref r2] m_gc_fresh (by decide) ⟨by decide, by decide⟩ (List.mem_of_getElem? (i := 645) (by decide +kernel)) rfl (Nat.le_of_ble_eq_true rfl) h1 (by decide +kernel) (Nat.le_of_ble_eq_true rfl) rfl) (ok_gc_fresh N a0 r2 S v) rfl (fun q4 S5 w6 h7 => ?_)
  refine sim_oc2 (fun _ => sim_none) (fun r8 _ => ?_)
  refine sim_grd fun h9 => ?_
  refine sim_bind fun r10 h11 => ?_
  refine sim_seg [(.getfield 87, 4, 6, 0), (.astore_n 2, 0, 0, 0)] [r10] (q := 20) (L' := [some (.ref a0), some (.int b1), some (.ref r10), none, none, none, none]) (st' := []) (v1 := w6) (by decide +kernel) rfl ⟨⟨h9, h11⟩, trivial⟩ ?_
  refine sim_seg [(.aload_n 2, 0, 0, 0)] [] (q := 21) (L' := [some (.ref a0), some (.int b1), some (.ref r10), none, none, none, none]) (st' := [.ref r10]) (v1 := w6) (by decide +kernel) rfl trivial ?_
  refine sim_grd fun h12 => ?_
  refine sc_pv (pc3 := 24) (cf_V (idx := 217) (ci := 0) [] m_ck_tick (by decide) ⟨by decide, by decide⟩ (List.mem_of_getElem? (i := 1382) (by decide +kernel)) rfl (Nat.le_of_ble_eq_true rfl) h12 (by decide +kernel) (Nat.le_of_ble_eq_true rfl) rfl) (ok_ck_tick r10 S5 w6) rfl (fun w13 => ?_)
  refine sim_seg [(.ldc 216, 0, 0, 2000000), (.istore_n 3, 0, 0, 0)] [] (q := 27) (L' := [some (.ref a0), some (.int b1), some (.ref r10), some (.int (J 2000000)), none, none, none]) (st' := []) (v1 := w13) (by decide +kernel) rfl trivial ?_
  refine sim_seg [(.iconst 0, 0, 0, 0), (.istore 4, 0, 0, 0)] [] (q := 30) (L' := [some (.ref a0), some (.int b1), some (.ref r10), some (.int (J 2000000)), some (.int (J 0)), none, none]) (st' := []) (v1 := w13) (by decide +kernel) rfl trivial ?_
  refine sim_seg [(.iconst 0, 0, 0, 0), (.istore 5, 0, 0, 0)] [] (q := 33) (L' := [some (.ref a0), some (.int b1), some (.ref r10), some (.int (J 2000000)), some (.int (J 0)), some (.int (J 0)), none]) (st' := []) (v1 := w13) (by decide +kernel) rfl trivial ?_
  exact sim_wk (L0 := [none, some (.int b1), some (.ref r10), some (.int (J 2000000)), some (.int (J 0)), some (.int (J 0)), none]) ⟨rfl, rfl, rfl, rfl, rfl, trivial⟩ (sK_gc_wobble_33 N S v N S5 w13 b1 r10 (J 2000000) (J 0) (J 0))
def B_ck_edgesToDrift : bd := (⟨"GateCounter$Clock", "edgesToDrift", "(I)I"⟩, prog_2_method_11_code, 3, (some .int), [], 0, 1)
theorem m_ck_edgesToDrift : mV B_ck_edgesToDrift 0 1 := ⟨⟨⟨by decide +kernel, Or.inl rfl⟩, rfl, (List.mem_of_getElem? (i := 1393) (by decide +kernel)), by decide +kernel, (List.mem_of_getElem? (i := 98) (by decide +kernel)), ⟨by decide, by decide⟩, by decide⟩, rfl, (by unfold nar; decide +kernel), (List.mem_of_getElem? (i := 1391) (by decide +kernel)), rfl, (List.mem_of_getElem? (i := 1392) (by decide +kernel))⟩
noncomputable def K_ck_edgesToDrift_24  (S : shp) (v : vl) (p0 : Nat) (p2 : Int32) : Option Int32 :=
  (if p2 < (J 0) then grd (kin S p0 = some (0, 0)) <| (if (gi v p0 2) < (J 0) then (F_ma_abs p2 S v).bind fun x3 => lt ((x3 * (J 100)) - ((gi v p0 5) - (gi v p0 5) / (J 100) * (J 100))) fun x4 => some (x4) else some ((J (-1)))) else (F_ma_abs p2 S v).bind fun x5 => grd (kin S p0 = some (0, 0)) <| lt ((x5 * (J 100)) - ((gi v p0 5) - (gi v p0 5) / (J 100) * (J 100))) fun x7 => some (x7))
theorem sK_ck_edgesToDrift_24   (S : shp) (v : vl) (p0 : Nat) (p2 : Int32) : SimK B_ck_edgesToDrift 24 [some (.ref p0), none, some (.int p2)] [] S v (K_ck_edgesToDrift_24   S v p0 p2) (ρri S v) := by
  unfold K_ck_edgesToDrift_24
  refine sim_seg [(.iload_n 2, 0, 0, 0)] [] (q := 25) (L' := [some (.ref p0), none, some (.int p2)]) (st' := [.int p2]) (v1 := v) (by decide +kernel) rfl trivial ?_
  refine sim_ge0 (o := 12) (tg := 37) (f := 28) (by decide +kernel) rfl rfl (fun _ => ?_) (fun _ => ?_)
  · refine sim_grd fun h2 => ?_
    refine sim_seg [(.aload_n 0, 0, 0, 0), (.getfield 18, 0, 2, 0)] [] (q := 32) (L' := [some (.ref p0), none, some (.int p2)]) (st' := [.int (gi v p0 2)]) (v1 := v) (by decide +kernel) rfl ⟨h2, trivial⟩ ?_
    refine sim_lt0 (o := 5) (tg := 37) (f := 35) (by decide +kernel) rfl rfl (fun _ => ?_) (fun _ => ?_)
    · refine sim_seg [(.iload_n 2, 0, 0, 0)] [] (q := 38) (L' := [some (.ref p0), none, some (.int p2)]) (st' := [.int p2]) (v1 := v) (by decide +kernel) rfl trivial ?_
      refine sc_ri (pc3 := 41) (cf_S (idx := 61) [.int p2] m_ma_abs ⟨by decide, by decide⟩ (List.mem_of_getElem? (i := 1394) (by decide +kernel)) rfl (Nat.le_of_ble_eq_true rfl) (by decide +kernel) (Nat.le_of_ble_eq_true rfl) rfl) (ok_ma_abs p2 S v) rfl (fun x3 => ?_)
      refine sim_seg [(.bipush 100, 0, 0, 100), (.imul, 0, 0, 0), (.aload_n 0, 0, 0, 0), (.getfield 27, 0, 5, 0), (.bipush 100, 0, 0, 100), (.irem, 0, 0, 0), (.isub, 0, 0, 0)] [] (q := 52) (L' := [some (.ref p0), none, some (.int p2)]) (st' := [.int ((x3 * (J 100)) - ((gi v p0 5) - (gi v p0 5) / (J 100) * (J 100)))]) (v1 := v) (by decide +kernel) rfl ⟨h2, (by decide), trivial⟩ ?_
      refine sim_nm ((x3 * (J 100)) - ((gi v p0 5) - (gi v p0 5) / (J 100) * (J 100))) (fun x4 => [some (.ref p0), none, some (.int p2)]) (fun x4 => [.int x4]) (fun x4 => ?_) rfl rfl
      exact sim_iret (by decide +kernel) rfl rfl rfl
    · refine sim_seg [(.iconst (-1), 0, 0, (-1))] [] (q := 36) (L' := [some (.ref p0), none, some (.int p2)]) (st' := [.int (J (-1))]) (v1 := v) (by decide +kernel) rfl trivial ?_
      exact sim_iret (by decide +kernel) rfl rfl rfl
  · refine sim_seg [(.iload_n 2, 0, 0, 0)] [] (q := 38) (L' := [some (.ref p0), none, some (.int p2)]) (st' := [.int p2]) (v1 := v) (by decide +kernel) rfl trivial ?_
    refine sc_ri (pc3 := 41) (cf_S (idx := 61) [.int p2] m_ma_abs ⟨by decide, by decide⟩ (List.mem_of_getElem? (i := 1394) (by decide +kernel)) rfl (Nat.le_of_ble_eq_true rfl) (by decide +kernel) (Nat.le_of_ble_eq_true rfl) rfl) (ok_ma_abs p2 S v) rfl (fun x5 => ?_)
    refine sim_grd fun h6 => ?_
    refine sim_seg [(.bipush 100, 0, 0, 100), (.imul, 0, 0, 0), (.aload_n 0, 0, 0, 0), (.getfield 27, 0, 5, 0), (.bipush 100, 0, 0, 100), (.irem, 0, 0, 0), (.isub, 0, 0, 0)] [] (q := 52) (L' := [some (.ref p0), none, some (.int p2)]) (st' := [.int ((x5 * (J 100)) - ((gi v p0 5) - (gi v p0 5) / (J 100) * (J 100)))]) (v1 := v) (by decide +kernel) rfl ⟨h6, (by decide), trivial⟩ ?_
    refine sim_nm ((x5 * (J 100)) - ((gi v p0 5) - (gi v p0 5) / (J 100) * (J 100))) (fun x7 => [some (.ref p0), none, some (.int p2)]) (fun x7 => [.int x7]) (fun x7 => ?_) rfl rfl
    exact sim_iret (by decide +kernel) rfl rfl rfl
noncomputable def F_ck_edgesToDrift (a0 : Nat) (b1 : Int32) (S : shp) (v : vl) : Option Int32 :=
  grd (kin S a0 = some (0, 0)) <| (if (b1 - (gi v a0 1)) = (J 0) then some ((J 0)) else (if (J 0) < (b1 - (gi v a0 1)) then (if (J 0) < (gi v a0 2) then K_ck_edgesToDrift_24  S v a0 (b1 - (gi v a0 1)) else some ((J (-1)))) else K_ck_edgesToDrift_24  S v a0 (b1 - (gi v a0 1))))
theorem ok_ck_edgesToDrift (a0 : Nat) (b1 : Int32) (S : shp) (v : vl) : SimK B_ck_edgesToDrift 0 (entB (bN B_ck_edgesToDrift) [.ref a0, .int b1]) [] S v (F_ck_edgesToDrift a0 b1 S v) (ρri S v) := by
  show SimK B_ck_edgesToDrift 0 [some (.ref a0), some (.int b1), none] [] S v (F_ck_edgesToDrift a0 b1 S v) _
  unfold F_ck_edgesToDrift
  refine sim_grd fun h1 => ?_
  refine sim_seg [(.iload_n 1, 0, 0, 0), (.aload_n 0, 0, 0, 0), (.getfield 15, 0, 1, 0), (.isub, 0, 0, 0), (.istore_n 2, 0, 0, 0)] [] (q := 7) (L' := [some (.ref a0), some (.int b1), some (.int (b1 - (gi v a0 1)))]) (st' := []) (v1 := v) (by decide +kernel) rfl ⟨h1, trivial⟩ ?_
  refine sim_seg [(.iload_n 2, 0, 0, 0)] [] (q := 8) (L' := [some (.ref a0), some (.int b1), some (.int (b1 - (gi v a0 1)))]) (st' := [.int (b1 - (gi v a0 1))]) (v1 := v) (by decide +kernel) rfl trivial ?_
  refine sim_ne0 (o := 5) (tg := 13) (f := 11) (by decide +kernel) rfl rfl (fun _ => ?_) (fun _ => ?_)
  · refine sim_seg [(.iconst 0, 0, 0, 0)] [] (q := 12) (L' := [some (.ref a0), some (.int b1), some (.int (b1 - (gi v a0 1)))]) (st' := [.int (J 0)]) (v1 := v) (by decide +kernel) rfl trivial ?_
    exact sim_iret (by decide +kernel) rfl rfl rfl
  · refine sim_seg [(.iload_n 2, 0, 0, 0)] [] (q := 14) (L' := [some (.ref a0), some (.int b1), some (.int (b1 - (gi v a0 1)))]) (st' := [.int (b1 - (gi v a0 1))]) (v1 := v) (by decide +kernel) rfl trivial ?_
    refine sim_le0 (o := 10) (tg := 24) (f := 17) (by decide +kernel) rfl rfl (fun _ => ?_) (fun _ => ?_)
    · refine sim_seg [(.aload_n 0, 0, 0, 0), (.getfield 18, 0, 2, 0)] [] (q := 21) (L' := [some (.ref a0), some (.int b1), some (.int (b1 - (gi v a0 1)))]) (st' := [.int (gi v a0 2)]) (v1 := v) (by decide +kernel) rfl ⟨h1, trivial⟩ ?_
      refine sim_le0 (o := 14) (tg := 35) (f := 24) (by decide +kernel) rfl rfl (fun _ => ?_) (fun _ => ?_)
      · exact sim_wk (L0 := [some (.ref a0), none, some (.int (b1 - (gi v a0 1)))]) ⟨rfl, rfl, trivial⟩ (sK_ck_edgesToDrift_24 S v a0 (b1 - (gi v a0 1)))
      · refine sim_seg [(.iconst (-1), 0, 0, (-1))] [] (q := 36) (L' := [some (.ref a0), some (.int b1), some (.int (b1 - (gi v a0 1)))]) (st' := [.int (J (-1))]) (v1 := v) (by decide +kernel) rfl trivial ?_
        exact sim_iret (by decide +kernel) rfl rfl rfl
    · exact sim_wk (L0 := [some (.ref a0), none, some (.int (b1 - (gi v a0 1)))]) ⟨rfl, rfl, trivial⟩ (sK_ck_edgesToDrift_24 S v a0 (b1 - (gi v a0 1)))
def B_gc_clocksTo : bd := (⟨"GateCounter", "clocksTo", "(I)I"⟩, prog_1_method_26_code, 2, (some .int), [], 5, 8)
theorem m_gc_clocksTo : mV B_gc_clocksTo 5 1 := ⟨⟨⟨by decide +kernel, Or.inl rfl⟩, rfl, (List.mem_of_getElem? (i := 1389) (by decide +kernel)), by decide +kernel, (List.mem_of_getElem? (i := 95) (by decide +kernel)), ⟨by decide, by decide⟩, by decide⟩, rfl, (by unfold nar; decide +kernel), (List.mem_of_getElem? (i := 1387) (by decide +kernel)), rfl, (List.mem_of_getElem? (i := 1388) (by decide +kernel))⟩
noncomputable def F_gc_clocksTo (a0 : Nat) (b1 : Int32) (S : shp) (v : vl) : Option (Nat ⊕ Int32) :=
  bx (F_gc_requireWithin b1 (J (-99)) (J 99) S v) (fun k0 => some (.inl k0)) fun _ => grd (kin S a0 = some (0, 5)) <| (gr S a0 5).bind fun r2 => grd (kin S r2 = some (0, 4)) <| (gr S r2 6).bind fun r5 => grd (kin S r5 = some (0, 0)) <| (F_ck_edgesToDrift r5 b1 S v).bind fun x8 => some (.inr x8)
theorem ok_gc_clocksTo (a0 : Nat) (b1 : Int32) (S : shp) (v : vl) : SimK B_gc_clocksTo 0 (entB (bN B_gc_clocksTo) [.ref a0, .int b1]) [] S v (F_gc_clocksTo a0 b1 S v) (ρxi S v) := by
  show SimK B_gc_clocksTo 0 [some (.ref a0), some (.int b1)] [] S v (F_gc_clocksTo a0 b1 S v) _
  unfold F_gc_clocksTo
  refine sim_seg [(.iload_n 1, 0, 0, 0), (.bipush (-99), 0, 0, (-99)), (.bipush 99, 0, 0, 99)] [] (q := 5) (L' := [some (.ref a0), some (.int b1)]) (st' := [.int (J 99), .int (J (-99)), .int b1]) (v1 := v) (by decide +kernel) rfl trivial ?_
  refine sc_xv (pc3 := 8) (cf_S (idx := 170) [.int b1, .int (J (-99)), .int (J 99)] m_gc_requireWithin ⟨by decide, by decide⟩ (List.mem_of_getElem? (i := 1321) (by decide +kernel)) rfl (Nat.le_of_ble_eq_true rfl) (by decide +kernel) (Nat.le_of_ble_eq_true rfl) rfl) (ok_gc_requireWithin b1 (J (-99)) (J 99) S v) rfl rfl (fun k0 b hb => by cases hb; rfl) (fun _ => ?_)
  refine sim_grd fun h1 => ?_
  refine sim_bind fun r2 h3 => ?_
  refine sim_grd fun h4 => ?_
  refine sim_bind fun r5 h6 => ?_
  refine sim_seg [(.aload_n 0, 0, 0, 0), (.getfield 26, 5, 5, 0), (.getfield 87, 4, 6, 0), (.iload_n 1, 0, 0, 0)] [r2, r5] (q := 16) (L' := [some (.ref a0), some (.int b1)]) (st' := [.int b1, .ref r5]) (v1 := v) (by decide +kernel) rfl ⟨⟨h1, h3⟩, ⟨h4, h6⟩, trivial⟩ ?_
  refine sim_grd fun h7 => ?_
  refine sc_ri (pc3 := 19) (cf_V (idx := 229) (ci := 0) [.int b1] m_ck_edgesToDrift (by decide) ⟨by decide, by decide⟩ (List.mem_of_getElem? (i := 1390) (by decide +kernel)) rfl (Nat.le_of_ble_eq_true rfl) h7 (by decide +kernel) (Nat.le_of_ble_eq_true rfl) rfl) (ok_ck_edgesToDrift r5 b1 S v) rfl (fun x8 => ?_)
  exact sim_iret (by decide +kernel) rfl rfl rfl
def B_gc_byGate : bd := (⟨"GateCounter", "byGate", "(I)I"⟩, prog_1_method_27_code, 2, (some .int), [], 5, 8)
theorem m_gc_byGate : mV B_gc_byGate 5 1 := ⟨⟨⟨by decide +kernel, Or.inl rfl⟩, rfl, (List.mem_of_getElem? (i := 1401) (by decide +kernel)), by decide +kernel, (List.mem_of_getElem? (i := 95) (by decide +kernel)), ⟨by decide, by decide⟩, by decide⟩, rfl, (by unfold nar; decide +kernel), (List.mem_of_getElem? (i := 1399) (by decide +kernel)), rfl, (List.mem_of_getElem? (i := 1400) (by decide +kernel))⟩
noncomputable def F_gc_byGate (N : Nat) (a0 : Nat) (b1 : Int32) (S : shp) (v : vl) : Option (Nat ⊕ (Int32 × shp × vl)) :=
  bx (F_gc_requireWithin b1 (J 0) (J 7) S v) (fun k0 => some (.inl k0)) fun _ => grd (kin S a0 = some (0, 5)) <| (gr S a0 6).bind fun r2 => (F_gc_fresh N a0 r2 S v).bind fun (q4, S5, w6) => oc2 q4 none fun r8 => grd (kin S5 r8 = some (0, 4)) <| (F_st_measureByGate N r8 S5 w6).bind fun (x10, S11, w12) => (if x10 = (J 0) then (gr S11 a0 6).bind fun r14 => grd (kin S11 r14 = some (0, 4)) <| (F_st_latestNumber N r14 b1 S11 w12).bind fun x17 => some (.inr (x17, S11, w12)) else some (.inr ((J (-1)), S11, w12)))
theorem ok_gc_byGate (N : Nat) (a0 : Nat) (b1 : Int32) (S : shp) (v : vl) : SimK B_gc_byGate 0 (entB (bN B_gc_byGate) [.ref a0, .int b1]) [] S v (F_gc_byGate N a0 b1 S v) (ρzi S v) := by
  show SimK B_gc_byGate 0 [some (.ref a0), some (.int b1)] [] S v (F_gc_byGate N a0 b1 S v) _
  unfold F_gc_byGate
  refine sim_seg [(.iload_n 1, 0, 0, 0), (.iconst 0, 0, 0, 0), (.bipush 7, 0, 0, 7)] [] (q := 4) (L' := [some (.ref a0), some (.int b1)]) (st' := [.int (J 7), .int (J 0), .int b1]) (v1 := v) (by decide +kernel) rfl trivial ?_
  refine sc_xv (pc3 := 7) (cf_S (idx := 170) [.int b1, .int (J 0), .int (J 7)] m_gc_requireWithin ⟨by decide, by decide⟩ (List.mem_of_getElem? (i := 1321) (by decide +kernel)) rfl (Nat.le_of_ble_eq_true rfl) (by decide +kernel) (Nat.le_of_ble_eq_true rfl) rfl) (ok_gc_requireWithin b1 (J 0) (J 7) S v) rfl rfl (fun k0 b hb => by cases hb; rfl) (fun _ => ?_)
  refine sim_grd fun h1 => ?_
  refine sim_bind fun r2 h3 => ?_
  refine sim_seg [(.aload_n 0, 0, 0, 0), (.aload_n 0, 0, 0, 0), (.getfield 30, 5, 6, 0)] [r2] (q := 12) (L' := [some (.ref a0), some (.int b1)]) (st' := [.ref r2, .ref a0]) (v1 := v) (by decide +kernel) rfl ⟨⟨h1, h3⟩, trivial⟩ ?_
  refine sc_gq (pc3 := 15) (cf_V (idx := 196) (ci := 5) [.ref r2] m_gc_fresh (by decide) ⟨by decide, by decide⟩ (List.mem_of_getElem? (i := 645) (by decide +kernel)) rfl (Nat.le_of_ble_eq_true rfl) h1 (by decide +kernel) (Nat.le_of_ble_eq_true rfl) rfl) (ok_gc_fresh N a0 r2 S v) rfl (fun q4 S5 w6 h7 => ?_)
  refine sim_oc2 (fun _ => sim_none) (fun r8 _ => ?_)
  refine sim_grd fun h9 => ?_
  refine sc_gi (pc3 := 18) (cf_V (idx := 232) (ci := 4) [] m_st_measureByGate (by decide) ⟨by decide, by decide⟩ (List.mem_of_getElem? (i := 761) (by decide +kernel)) rfl (Nat.le_of_ble_eq_true rfl) h9 (by decide +kernel) (Nat.le_of_ble_eq_true rfl) rfl) (ok_st_measureByGate N r8 S5 w6) rfl (fun x10 S11 w12 h13 => ?_)
  refine sim_ne0 (o := 14) (tg := 32) (f := 21) (by decide +kernel) rfl rfl (fun _ => ?_) (fun _ => ?_)
  · refine sim_bind fun r14 h15 => ?_
    refine sim_seg [(.aload_n 0, 0, 0, 0), (.getfield 30, 5, 6, 0), (.iload_n 1, 0, 0, 0)] [r14] (q := 26) (L' := [some (.ref a0), some (.int b1)]) (st' := [.int b1, .ref r14]) (v1 := w12) (by decide +kernel) rfl ⟨⟨(h13.2.2.2.2 _ _ (h7.2.2.2.2 _ _ h1)), h15⟩, trivial⟩ ?_
    refine sim_grd fun h16 => ?_
    refine sc_ri (pc3 := 29) (cf_V (idx := 235) (ci := 4) [.int b1] m_st_latestNumber (by decide) ⟨by decide, by decide⟩ (List.mem_of_getElem? (i := 779) (by decide +kernel)) rfl (Nat.le_of_ble_eq_true rfl) h16 (by decide +kernel) (Nat.le_of_ble_eq_true rfl) rfl) (ok_st_latestNumber N r14 b1 S11 w12) rfl (fun x17 => ?_)
    refine sim_seg [(.goto 4, 0, 0, 0)] [] (q := 33) (L' := [some (.ref a0), some (.int b1)]) (st' := [.int x17]) (v1 := w12) (by decide +kernel) rfl trivial ?_
    exact sim_iret (by decide +kernel) rfl rfl rfl
  · refine sim_seg [(.iconst (-1), 0, 0, (-1))] [] (q := 33) (L' := [some (.ref a0), some (.int b1)]) (st' := [.int (J (-1))]) (v1 := w12) (by decide +kernel) rfl trivial ?_
    exact sim_iret (by decide +kernel) rfl rfl rfl
def B_gc_byPeriod : bd := (⟨"GateCounter", "byPeriod", "(I)I"⟩, prog_1_method_28_code, 2, (some .int), [], 5, 8)
theorem m_gc_byPeriod : mV B_gc_byPeriod 5 1 := ⟨⟨⟨by decide +kernel, Or.inl rfl⟩, rfl, (List.mem_of_getElem? (i := 1408) (by decide +kernel)), by decide +kernel, (List.mem_of_getElem? (i := 95) (by decide +kernel)), ⟨by decide, by decide⟩, by decide⟩, rfl, (by unfold nar; decide +kernel), (List.mem_of_getElem? (i := 1406) (by decide +kernel)), rfl, (List.mem_of_getElem? (i := 1407) (by decide +kernel))⟩
noncomputable def F_gc_byPeriod (N : Nat) (a0 : Nat) (b1 : Int32) (S : shp) (v : vl) : Option (Nat ⊕ (Int32 × shp × vl)) :=
  bx (F_gc_requireWithin b1 (J 0) (J 7) S v) (fun k0 => some (.inl k0)) fun _ => grd (kin S a0 = some (0, 5)) <| (gr S a0 7).bind fun r2 => (F_gc_fresh N a0 r2 S v).bind fun (q4, S5, w6) => oc2 q4 none fun r8 => grd (kin S5 r8 = some (0, 4)) <| (F_st_measureByPeriod N r8 S5 w6).bind fun (x10, S11, w12) => (if x10 = (J 0) then (gr S11 a0 7).bind fun r14 => grd (kin S11 r14 = some (0, 4)) <| (F_st_latestNumber N r14 b1 S11 w12).bind fun x17 => some (.inr (x17, S11, w12)) else some (.inr ((J (-1)), S11, w12)))
theorem ok_gc_byPeriod (N : Nat) (a0 : Nat) (b1 : Int32) (S : shp) (v : vl) : SimK B_gc_byPeriod 0 (entB (bN B_gc_byPeriod) [.ref a0, .int b1]) [] S v (F_gc_byPeriod N a0 b1 S v) (ρzi S v) := by
  show SimK B_gc_byPeriod 0 [some (.ref a0), some (.int b1)] [] S v (F_gc_byPeriod N a0 b1 S v) _
  unfold F_gc_byPeriod
  refine sim_seg [(.iload_n 1, 0, 0, 0), (.iconst 0, 0, 0, 0), (.bipush 7, 0, 0, 7)] [] (q := 4) (L' := [some (.ref a0), some (.int b1)]) (st' := [.int (J 7), .int (J 0), .int b1]) (v1 := v) (by decide +kernel) rfl trivial ?_
  refine sc_xv (pc3 := 7) (cf_S (idx := 170) [.int b1, .int (J 0), .int (J 7)] m_gc_requireWithin ⟨by decide, by decide⟩ (List.mem_of_getElem? (i := 1321) (by decide +kernel)) rfl (Nat.le_of_ble_eq_true rfl) (by decide +kernel) (Nat.le_of_ble_eq_true rfl) rfl) (ok_gc_requireWithin b1 (J 0) (J 7) S v) rfl rfl (fun k0 b hb => by cases hb; rfl) (fun _ => ?_)
  refine sim_grd fun h1 => ?_
  refine sim_bind fun r2 h3 => ?_
  refine sim_seg [(.aload_n 0, 0, 0, 0), (.aload_n 0, 0, 0, 0), (.getfield 33, 5, 7, 0)] [r2] (q := 12) (L' := [some (.ref a0), some (.int b1)]) (st' := [.ref r2, .ref a0]) (v1 := v) (by decide +kernel) rfl ⟨⟨h1, h3⟩, trivial⟩ ?_
  refine sc_gq (pc3 := 15) (cf_V (idx := 196) (ci := 5) [.ref r2] m_gc_fresh (by decide) ⟨by decide, by decide⟩ (List.mem_of_getElem? (i := 645) (by decide +kernel)) rfl (Nat.le_of_ble_eq_true rfl) h1 (by decide +kernel) (Nat.le_of_ble_eq_true rfl) rfl) (ok_gc_fresh N a0 r2 S v) rfl (fun q4 S5 w6 h7 => ?_)
  refine sim_oc2 (fun _ => sim_none) (fun r8 _ => ?_)
  refine sim_grd fun h9 => ?_
  refine sc_gi (pc3 := 18) (cf_V (idx := 238) (ci := 4) [] m_st_measureByPeriod (by decide) ⟨by decide, by decide⟩ (List.mem_of_getElem? (i := 653) (by decide +kernel)) rfl (Nat.le_of_ble_eq_true rfl) h9 (by decide +kernel) (Nat.le_of_ble_eq_true rfl) rfl) (ok_st_measureByPeriod N r8 S5 w6) rfl (fun x10 S11 w12 h13 => ?_)
  refine sim_ne0 (o := 14) (tg := 32) (f := 21) (by decide +kernel) rfl rfl (fun _ => ?_) (fun _ => ?_)
  · refine sim_bind fun r14 h15 => ?_
    refine sim_seg [(.aload_n 0, 0, 0, 0), (.getfield 33, 5, 7, 0), (.iload_n 1, 0, 0, 0)] [r14] (q := 26) (L' := [some (.ref a0), some (.int b1)]) (st' := [.int b1, .ref r14]) (v1 := w12) (by decide +kernel) rfl ⟨⟨(h13.2.2.2.2 _ _ (h7.2.2.2.2 _ _ h1)), h15⟩, trivial⟩ ?_
    refine sim_grd fun h16 => ?_
    refine sc_ri (pc3 := 29) (cf_V (idx := 235) (ci := 4) [.int b1] m_st_latestNumber (by decide) ⟨by decide, by decide⟩ (List.mem_of_getElem? (i := 779) (by decide +kernel)) rfl (Nat.le_of_ble_eq_true rfl) h16 (by decide +kernel) (Nat.le_of_ble_eq_true rfl) rfl) (ok_st_latestNumber N r14 b1 S11 w12) rfl (fun x17 => ?_)
    refine sim_seg [(.goto 4, 0, 0, 0)] [] (q := 33) (L' := [some (.ref a0), some (.int b1)]) (st' := [.int x17]) (v1 := w12) (by decide +kernel) rfl trivial ?_
    exact sim_iret (by decide +kernel) rfl rfl rfl
  · refine sim_seg [(.iconst (-1), 0, 0, (-1))] [] (q := 33) (L' := [some (.ref a0), some (.int b1)]) (st' := [.int (J (-1))]) (v1 := w12) (by decide +kernel) rfl trivial ?_
    exact sim_iret (by decide +kernel) rfl rfl rfl
def B_gc_trueRate : bd := (⟨"GateCounter", "trueRate", "(I)I"⟩, prog_1_method_29_code, 2, (some .int), [], 5, 8)
theorem m_gc_trueRate : mV B_gc_trueRate 5 1 := ⟨⟨⟨by decide +kernel, Or.inl rfl⟩, rfl, (List.mem_of_getElem? (i := 1415) (by decide +kernel)), by decide +kernel, (List.mem_of_getElem? (i := 95) (by decide +kernel)), ⟨by decide, by decide⟩, by decide⟩, rfl, (by unfold nar; decide +kernel), (List.mem_of_getElem? (i := 1413) (by decide +kernel)), rfl, (List.mem_of_getElem? (i := 1414) (by decide +kernel))⟩
noncomputable def F_gc_trueRate (N : Nat) (a0 : Nat) (b1 : Int32) (S : shp) (v : vl) : Option (Nat ⊕ (Int32 × shp × vl)) :=
  bx (F_gc_requireWithin b1 (J 1) (J 100000) S v) (fun k0 => some (.inl k0)) fun _ => (if (J 0) < b1 then grd (kin S a0 = some (0, 5)) <| (F_gc_edgesComing N a0 b1 S v).bind fun (x2, S3, w4) => grd (¬ (Int32.toInt64 b1) = 0) <| lt (Int64.toInt32 (((Int32.toInt64 x2) * (JL 1000000)) / (Int32.toInt64 b1))) fun x7 => some (.inr (x7, S3, w4)) else some (.inr ((J 0), S, v)))
theorem ok_gc_trueRate (N : Nat) (a0 : Nat) (b1 : Int32) (S : shp) (v : vl) : SimK B_gc_trueRate 0 (entB (bN B_gc_trueRate) [.ref a0, .int b1]) [] S v (F_gc_trueRate N a0 b1 S v) (ρzi S v) := by
  show SimK B_gc_trueRate 0 [some (.ref a0), some (.int b1)] [] S v (F_gc_trueRate N a0 b1 S v) _
  unfold F_gc_trueRate
  refine sim_seg [(.iload_n 1, 0, 0, 0), (.iconst 1, 0, 0, 1), (.ldc 192, 0, 0, 100000)] [] (q := 4) (L' := [some (.ref a0), some (.int b1)]) (st' := [.int (J 100000), .int (J 1), .int b1]) (v1 := v) (by decide +kernel) rfl trivial ?_
  refine sc_xv (pc3 := 7) (cf_S (idx := 170) [.int b1, .int (J 1), .int (J 100000)] m_gc_requireWithin ⟨by decide, by decide⟩ (List.mem_of_getElem? (i := 1321) (by decide +kernel)) rfl (Nat.le_of_ble_eq_true rfl) (by decide +kernel) (Nat.le_of_ble_eq_true rfl) rfl) (ok_gc_requireWithin b1 (J 1) (J 100000) S v) rfl rfl (fun k0 b hb => by cases hb; rfl) (fun _ => ?_)
  refine sim_seg [(.iload_n 1, 0, 0, 0)] [] (q := 8) (L' := [some (.ref a0), some (.int b1)]) (st' := [.int b1]) (v1 := v) (by decide +kernel) rfl trivial ?_
  refine sim_le0 (o := 20) (tg := 28) (f := 11) (by decide +kernel) rfl rfl (fun _ => ?_) (fun _ => ?_)
  · refine sim_seg [(.aload_n 0, 0, 0, 0), (.iload_n 1, 0, 0, 0)] [] (q := 13) (L' := [some (.ref a0), some (.int b1)]) (st' := [.int b1, .ref a0]) (v1 := v) (by decide +kernel) rfl trivial ?_
    refine sim_grd fun h1 => ?_
    refine sc_gi (pc3 := 16) (cf_V (idx := 193) (ci := 5) [.int b1] m_gc_edgesComing (by decide) ⟨by decide, by decide⟩ (List.mem_of_getElem? (i := 1333) (by decide +kernel)) rfl (Nat.le_of_ble_eq_true rfl) h1 (by decide +kernel) (Nat.le_of_ble_eq_true rfl) rfl) (ok_gc_edgesComing N a0 b1 S v) rfl (fun x2 S3 w4 h5 => ?_)
    refine sim_grd fun h6 => ?_
    refine sim_seg [(.i2l, 0, 0, 0), (.ldc2_w 241, 0, 0, 1000000), (.lmul, 0, 0, 0), (.iload_n 1, 0, 0, 0), (.i2l, 0, 0, 0), (.ldiv, 0, 0, 0), (.l2i, 0, 0, 0), (.goto 4, 0, 0, 0)] [] (q := 29) (L' := [some (.ref a0), some (.int b1)]) (st' := [.int (Int64.toInt32 (((Int32.toInt64 x2) * (JL 1000000)) / (Int32.toInt64 b1)))]) (v1 := w4) (by decide +kernel) rfl ⟨h6, trivial⟩ ?_
    refine sim_nm (Int64.toInt32 (((Int32.toInt64 x2) * (JL 1000000)) / (Int32.toInt64 b1))) (fun x7 => [some (.ref a0), some (.int b1)]) (fun x7 => [.int x7]) (fun x7 => ?_) rfl rfl
    exact sim_iret (by decide +kernel) rfl rfl rfl
  · refine sim_seg [(.iconst 0, 0, 0, 0)] [] (q := 29) (L' := [some (.ref a0), some (.int b1)]) (st' := [.int (J 0)]) (v1 := v) (by decide +kernel) rfl trivial ?_
    exact sim_iret (by decide +kernel) rfl rfl rfl
def B_sg_longestGap : bd := (⟨"GateCounter$Signal", "longestGap", "(II)I"⟩, prog_5_method_18_code, 10, (some .int), [], 3, 1)
theorem m_sg_longestGap : mV B_sg_longestGap 3 2 := ⟨⟨⟨by decide +kernel, Or.inl rfl⟩, rfl, (List.mem_of_getElem? (i := 1427) (by decide +kernel)), by decide +kernel, (List.mem_of_getElem? (i := 99) (by decide +kernel)), ⟨by decide, by decide⟩, by decide⟩, rfl, (by unfold nar; decide +kernel), (List.mem_of_getElem? (i := 1425) (by decide +kernel)), rfl, (List.mem_of_getElem? (i := 1426) (by decide +kernel))⟩
noncomputable def K_sg_longestGap_115 (N : Nat) (i23 : Nat → Int32 → Int32 → Int32 → Int32 → Int32 → Int32 → Option Int32) (S : shp) (v : vl) (p0 : Nat) (p2 : Int32) (p3 : Int32) (p4 : Int32) (p7 : Int32) : Option Int32 :=
  grd (kin S p0 = some (0, 3)) <| (if p7 < (gi v p0 8) then (gr S p0 10).bind fun r13 => grd (kin S r13 = some (1, 8)) <| grd (vp_in p7 (alen S r13)) <| (if p2 < (gi v r13 (Int32.toNatClampNeg p7)) then (F_ma_max p3 (p2 - p4) S v).bind fun x17 => some (x17) else (F_sg_firstEdge p0 p7 S v).bind fun x18 => (gr S p0 11).bind fun r19 => grd (kin S r19 = some (1, 8)) <| grd (vp_in p7 (alen S r19)) <| lt (gi v r19 (Int32.toNatClampNeg p7)) fun x23 => i23 p0 p2 p3 p4 x18 x23 (p7 + (J 1))) else (F_ma_max p3 (p2 - p4) S v).bind fun x24 => some (x24))
theorem sK_sg_longestGap_1150 (N : Nat) (i23 : Nat → Int32 → Int32 → Int32 → Int32 → Int32 → Int32 → Option Int32) (S : shp) (v : vl) (j23 : ∀ (p0 : Nat) (p2 : Int32) (p3 : Int32) (p4 : Int32) (p5 : Int32) (p6 : Int32) (p7 : Int32), SimK B_sg_longestGap 23 [some (.ref p0), none, some (.int p2), some (.int p3), some (.int p4), some (.int p5), some (.int p6), some (.int p7), none, none] [] S v (i23 p0 p2 p3 p4 p5 p6 p7) (ρri S v))  (p0 : Nat) (p2 : Int32) (p3 : Int32) (p4 : Int32) (p7 : Int32) : SimK B_sg_longestGap 115 [some (.ref p0), none, some (.int p2), some (.int p3), some (.int p4), none, none, some (.int p7), none, none] [] S v (K_sg_longestGap_115 N i23 S v p0 p2 p3 p4 p7) (ρri S v) := by
  unfold K_sg_longestGap_115
  refine sim_grd fun h12 => ?_
  refine sim_seg [(.iload 7, 0, 0, 0), (.aload_n 0, 0, 0, 0), (.getfield 35, 3, 8, 0)] [] (q := 121) (L' := [some (.ref p0), none, some (.int p2), some (.int p3), some (.int p4), none, none, some (.int p7), none, none]) (st' := [.int (gi v p0 8), .int p7]) (v1 := v) (by decide +kernel) rfl ⟨h12, trivial⟩ ?_
  refine sim_ge (o := 40) (tg := 161) (f := 124) (by decide +kernel) rfl rfl (fun _ => ?_) (fun _ => ?_)
  · refine sim_bind fun r13 h14 => ?_
    refine sim_grd fun h15 => ?_
    refine sim_grd fun h16 => ?_
    refine sim_seg [(.aload_n 0, 0, 0, 0), (.getfield 9, 3, 10, 0), (.iload 7, 0, 0, 0), (.iaload, 0, 0, 0), (.iload_n 2, 0, 0, 0)] [r13] (q := 132) (L' := [some (.ref p0), none, some (.int p2), some (.int p3), some (.int p4), none, none, some (.int p7), none, none]) (st' := [.int p2, .int (gi v r13 (Int32.toNatClampNeg p7))]) (v1 := v) (by decide +kernel) rfl ⟨⟨h12, h14⟩, ⟨(Or.inl (kin_alen h15)), h16⟩, trivial⟩ ?_
    refine sim_le (o := 6) (tg := 138) (f := 135) (by decide +kernel) rfl rfl (fun _ => ?_) (fun _ => ?_)
    · refine sim_seg [(.goto 26, 0, 0, 0), (.iload_n 3, 0, 0, 0), (.iload_n 2, 0, 0, 0), (.iload 4, 0, 0, 0), (.isub, 0, 0, 0)] [] (q := 166) (L' := [some (.ref p0), none, some (.int p2), some (.int p3), some (.int p4), none, none, some (.int p7), none, none]) (st' := [.int (p2 - p4), .int p3]) (v1 := v) (by decide +kernel) rfl trivial ?_
      refine sc_ri (pc3 := 169) (cf_S (idx := 84) [.int p3, .int (p2 - p4)] m_ma_max ⟨by decide, by decide⟩ (List.mem_of_getElem? (i := 1429) (by decide +kernel)) rfl (Nat.le_of_ble_eq_true rfl) (by decide +kernel) (Nat.le_of_ble_eq_true rfl) rfl) (ok_ma_max p3 (p2 - p4) S v) rfl (fun x17 => ?_)
      exact sim_iret (by decide +kernel) rfl rfl rfl
    · refine sim_seg [(.aload_n 0, 0, 0, 0), (.iload 7, 0, 0, 0)] [] (q := 141) (L' := [some (.ref p0), none, some (.int p2), some (.int p3), some (.int p4), none, none, some (.int p7), none, none]) (st' := [.int p7, .ref p0]) (v1 := v) (by decide +kernel) rfl trivial ?_
      refine sc_ri (pc3 := 144) (cf_V (idx := 66) (ci := 3) [.int p7] m_sg_firstEdge (by decide) ⟨by decide, by decide⟩ (List.mem_of_getElem? (i := 628) (by decide +kernel)) rfl (Nat.le_of_ble_eq_true rfl) h12 (by decide +kernel) (Nat.le_of_ble_eq_true rfl) rfl) (ok_sg_firstEdge p0 p7 S v) rfl (fun x18 => ?_)
      refine sim_seg [(.istore 5, 0, 0, 0)] [] (q := 146) (L' := [some (.ref p0), none, some (.int p2), some (.int p3), some (.int p4), some (.int x18), none, some (.int p7), none, none]) (st' := []) (v1 := v) (by decide +kernel) rfl trivial ?_
      refine sim_bind fun r19 h20 => ?_
      refine sim_grd fun h21 => ?_
      refine sim_grd fun h22 => ?_
      refine sim_seg [(.aload_n 0, 0, 0, 0), (.getfield 15, 3, 11, 0), (.iload 7, 0, 0, 0), (.iaload, 0, 0, 0), (.istore 6, 0, 0, 0)] [r19] (q := 155) (L' := [some (.ref p0), none, some (.int p2), some (.int p3), some (.int p4), some (.int x18), some (.int (gi v r19 (Int32.toNatClampNeg p7))), some (.int p7), none, none]) (st' := []) (v1 := v) (by decide +kernel) rfl ⟨⟨h12, h20⟩, ⟨(Or.inl (kin_alen h21)), h22⟩, trivial⟩ ?_
      refine sim_nm (gi v r19 (Int32.toNatClampNeg p7)) (fun x23 => [some (.ref p0), none, some (.int p2), some (.int p3), some (.int p4), some (.int x18), some (.int x23), some (.int p7), none, none]) (fun x23 => []) (fun x23 => ?_) rfl rfl
      refine sim_seg [(.iinc 7 1, 0, 0, 1)] [] (q := 158) (L' := [some (.ref p0), none, some (.int p2), some (.int p3), some (.int p4), some (.int x18), some (.int x23), some (.int (p7 + (J 1))), none, none]) (st' := []) (v1 := v) (by decide +kernel) rfl trivial ?_
      refine sim_seg [(.goto (-135), 0, 0, 0)] [] (q := 23) (L' := [some (.ref p0), none, some (.int p2), some (.int p3), some (.int p4), some (.int x18), some (.int x23), some (.int (p7 + (J 1))), none, none]) (st' := []) (v1 := v) (by decide +kernel) rfl trivial ?_
      exact j23 p0 p2 p3 p4 x18 x23 (p7 + (J 1))
  · refine sim_seg [(.iload_n 3, 0, 0, 0), (.iload_n 2, 0, 0, 0), (.iload 4, 0, 0, 0), (.isub, 0, 0, 0)] [] (q := 166) (L' := [some (.ref p0), none, some (.int p2), some (.int p3), some (.int p4), none, none, some (.int p7), none, none]) (st' := [.int (p2 - p4), .int p3]) (v1 := v) (by decide +kernel) rfl trivial ?_
    refine sc_ri (pc3 := 169) (cf_S (idx := 84) [.int p3, .int (p2 - p4)] m_ma_max ⟨by decide, by decide⟩ (List.mem_of_getElem? (i := 1429) (by decide +kernel)) rfl (Nat.le_of_ble_eq_true rfl) (by decide +kernel) (Nat.le_of_ble_eq_true rfl) rfl) (ok_ma_max p3 (p2 - p4) S v) rfl (fun x24 => ?_)
    exact sim_iret (by decide +kernel) rfl rfl rfl
theorem sK_sg_longestGap_115 (N : Nat) (i23 : Nat → Int32 → Int32 → Int32 → Int32 → Int32 → Int32 → Option Int32) {S : shp} {v : vl} (j23 : ∀ (p0 : Nat) (p2 : Int32) (p3 : Int32) (p4 : Int32) (p5 : Int32) (p6 : Int32) (p7 : Int32), SimK B_sg_longestGap 23 [some (.ref p0), none, some (.int p2), some (.int p3), some (.int p4), some (.int p5), some (.int p6), some (.int p7), none, none] [] S v (i23 p0 p2 p3 p4 p5 p6 p7) (ρri S v)) (S1 : shp) (v1 : vl) (p0 : Nat) (p2 : Int32) (p3 : Int32) (p4 : Int32) (p7 : Int32) : SimK B_sg_longestGap 115 [some (.ref p0), none, some (.int p2), some (.int p3), some (.int p4), none, none, some (.int p7), none, none] [] S v (K_sg_longestGap_115 N i23 S v p0 p2 p3 p4 p7) (ρri S v) := sK_sg_longestGap_1150 N  i23 S v j23  p0 p2 p3 p4 p7
noncomputable def K_sg_longestGap_58 (N : Nat) (i23 : Nat → Int32 → Int32 → Int32 → Int32 → Int32 → Int32 → Option Int32) (S : shp) (v : vl) (p0 : Nat) (p2 : Int32) (p3 : Int32) (p4 : Int32) (p5 : Int32) (p6 : Int32) (p7 : Int32) (s0 : Int32) : Option Int32 :=
  (F_sg_edgesUpTo s0 p5 p6 S v).bind fun x9 => (if (J 0) < x9 then (F_ma_max p3 (p5 - p4) S v).bind fun x10 => (if (J 1) < x9 then (F_ma_max x10 p6 S v).bind fun x11 => K_sg_longestGap_115 N i23 S v p0 p2 x11 (p5 + ((x9 - (J 1)) * p6)) p7 else (F_ma_max x10 (J 0) S v).bind fun x25 => K_sg_longestGap_115 N i23 S v p0 p2 x25 (p5 + ((x9 - (J 1)) * p6)) p7) else K_sg_longestGap_115 N i23 S v p0 p2 p3 p4 p7)
theorem sK_sg_longestGap_580 (N : Nat) (i23 : Nat → Int32 → Int32 → Int32 → Int32 → Int32 → Int32 → Option Int32) (S : shp) (v : vl) (j23 : ∀ (p0 : Nat) (p2 : Int32) (p3 : Int32) (p4 : Int32) (p5 : Int32) (p6 : Int32) (p7 : Int32), SimK B_sg_longestGap 23 [some (.ref p0), none, some (.int p2), some (.int p3), some (.int p4), some (.int p5), some (.int p6), some (.int p7), none, none] [] S v (i23 p0 p2 p3 p4 p5 p6 p7) (ρri S v))  (p0 : Nat) (p2 : Int32) (p3 : Int32) (p4 : Int32) (p5 : Int32) (p6 : Int32) (p7 : Int32) (s0 : Int32) : SimK B_sg_longestGap 58 [some (.ref p0), none, some (.int p2), some (.int p3), some (.int p4), some (.int p5), some (.int p6), some (.int p7), none, none] [.int s0] S v (K_sg_longestGap_58 N i23 S v p0 p2 p3 p4 p5 p6 p7 s0) (ρri S v) := by
  unfold K_sg_longestGap_58
  refine sim_seg [(.istore 8, 0, 0, 0)] [] (q := 60) (L' := [some (.ref p0), none, some (.int p2), some (.int p3), some (.int p4), some (.int p5), some (.int p6), some (.int p7), some (.int s0), none]) (st' := []) (v1 := v) (by decide +kernel) rfl trivial ?_
  refine sim_seg [(.iload 8, 0, 0, 0), (.iload 5, 0, 0, 0), (.iload 6, 0, 0, 0)] [] (q := 66) (L' := [some (.ref p0), none, some (.int p2), some (.int p3), some (.int p4), some (.int p5), some (.int p6), some (.int p7), some (.int s0), none]) (st' := [.int p6, .int p5, .int s0]) (v1 := v) (by decide +kernel) rfl trivial ?_
  refine sc_ri (pc3 := 69) (cf_S (idx := 70) [.int s0, .int p5, .int p6] m_sg_edgesUpTo ⟨by decide, by decide⟩ (List.mem_of_getElem? (i := 625) (by decide +kernel)) rfl (Nat.le_of_ble_eq_true rfl) (by decide +kernel) (Nat.le_of_ble_eq_true rfl) rfl) (ok_sg_edgesUpTo s0 p5 p6 S v) rfl (fun x9 => ?_)
  refine sim_seg [(.istore 9, 0, 0, 0)] [] (q := 71) (L' := [some (.ref p0), none, some (.int p2), some (.int p3), some (.int p4), some (.int p5), some (.int p6), some (.int p7), some (.int s0), some (.int x9)]) (st' := []) (v1 := v) (by decide +kernel) rfl trivial ?_
  refine sim_seg [(.iload 9, 0, 0, 0)] [] (q := 73) (L' := [some (.ref p0), none, some (.int p2), some (.int p3), some (.int p4), some (.int p5), some (.int p6), some (.int p7), some (.int s0), some (.int x9)]) (st' := [.int x9]) (v1 := v) (by decide +kernel) rfl trivial ?_
  refine sim_le0 (o := 42) (tg := 115) (f := 76) (by decide +kernel) rfl rfl (fun _ => ?_) (fun _ => ?_)
  · refine sim_seg [(.iload_n 3, 0, 0, 0), (.iload 5, 0, 0, 0), (.iload 4, 0, 0, 0), (.isub, 0, 0, 0)] [] (q := 82) (L' := [some (.ref p0), none, some (.int p2), some (.int p3), some (.int p4), some (.int p5), some (.int p6), some (.int p7), some (.int s0), some (.int x9)]) (st' := [.int (p5 - p4), .int p3]) (v1 := v) (by decide +kernel) rfl trivial ?_
    refine sc_ri (pc3 := 85) (cf_S (idx := 84) [.int p3, .int (p5 - p4)] m_ma_max ⟨by decide, by decide⟩ (List.mem_of_getElem? (i := 1429) (by decide +kernel)) rfl (Nat.le_of_ble_eq_true rfl) (by decide +kernel) (Nat.le_of_ble_eq_true rfl) rfl) (ok_ma_max p3 (p5 - p4) S v) rfl (fun x10 => ?_)
    refine sim_seg [(.istore_n 3, 0, 0, 0)] [] (q := 86) (L' := [some (.ref p0), none, some (.int p2), some (.int x10), some (.int p4), some (.int p5), some (.int p6), some (.int p7), some (.int s0), some (.int x9)]) (st' := []) (v1 := v) (by decide +kernel) rfl trivial ?_
    refine sim_seg [(.iload_n 3, 0, 0, 0), (.iload 9, 0, 0, 0), (.iconst 1, 0, 0, 1)] [] (q := 90) (L' := [some (.ref p0), none, some (.int p2), some (.int x10), some (.int p4), some (.int p5), some (.int p6), some (.int p7), some (.int s0), some (.int x9)]) (st' := [.int (J 1), .int x9, .int x10]) (v1 := v) (by decide +kernel) rfl trivial ?_
    refine sim_le (o := 8) (tg := 98) (f := 93) (by decide +kernel) rfl rfl (fun _ => ?_) (fun _ => ?_)
    · refine sim_seg [(.iload 6, 0, 0, 0), (.goto 4, 0, 0, 0)] [] (q := 99) (L' := [some (.ref p0), none, some (.int p2), some (.int x10), some (.int p4), some (.int p5), some (.int p6), some (.int p7), some (.int s0), some (.int x9)]) (st' := [.int p6, .int x10]) (v1 := v) (by decide +kernel) rfl trivial ?_
      refine sc_ri (pc3 := 102) (cf_S (idx := 84) [.int x10, .int p6] m_ma_max ⟨by decide, by decide⟩ (List.mem_of_getElem? (i := 1429) (by decide +kernel)) rfl (Nat.le_of_ble_eq_true rfl) (by decide +kernel) (Nat.le_of_ble_eq_true rfl) rfl) (ok_ma_max x10 p6 S v) rfl (fun x11 => ?_)
      refine sim_seg [(.istore_n 3, 0, 0, 0)] [] (q := 103) (L' := [some (.ref p0), none, some (.int p2), some (.int x11), some (.int p4), some (.int p5), some (.int p6), some (.int p7), some (.int s0), some (.int x9)]) (st' := []) (v1 := v) (by decide +kernel) rfl trivial ?_
      refine sim_seg [(.iload 5, 0, 0, 0), (.iload 9, 0, 0, 0), (.iconst 1, 0, 0, 1), (.isub, 0, 0, 0), (.iload 6, 0, 0, 0), (.imul, 0, 0, 0), (.iadd, 0, 0, 0), (.istore 4, 0, 0, 0)] [] (q := 115) (L' := [some (.ref p0), none, some (.int p2), some (.int x11), some (.int (p5 + ((x9 - (J 1)) * p6))), some (.int p5), some (.int p6), some (.int p7), some (.int s0), some (.int x9)]) (st' := []) (v1 := v) (by decide +kernel) rfl trivial ?_
      exact sim_wk (L0 := [some (.ref p0), none, some (.int p2), some (.int x11), some (.int (p5 + ((x9 - (J 1)) * p6))), none, none, some (.int p7), none, none]) ⟨rfl, rfl, rfl, rfl, rfl, trivial⟩ (sK_sg_longestGap_115 N i23 j23 S v p0 p2 x11 (p5 + ((x9 - (J 1)) * p6)) p7)
    · refine sim_seg [(.iconst 0, 0, 0, 0)] [] (q := 99) (L' := [some (.ref p0), none, some (.int p2), some (.int x10), some (.int p4), some (.int p5), some (.int p6), some (.int p7), some (.int s0), some (.int x9)]) (st' := [.int (J 0), .int x10]) (v1 := v) (by decide +kernel) rfl trivial ?_
      refine sc_ri (pc3 := 102) (cf_S (idx := 84) [.int x10, .int (J 0)] m_ma_max ⟨by decide, by decide⟩ (List.mem_of_getElem? (i := 1429) (by decide +kernel)) rfl (Nat.le_of_ble_eq_true rfl) (by decide +kernel) (Nat.le_of_ble_eq_true rfl) rfl) (ok_ma_max x10 (J 0) S v) rfl (fun x25 => ?_)
      refine sim_seg [(.istore_n 3, 0, 0, 0)] [] (q := 103) (L' := [some (.ref p0), none, some (.int p2), some (.int x25), some (.int p4), some (.int p5), some (.int p6), some (.int p7), some (.int s0), some (.int x9)]) (st' := []) (v1 := v) (by decide +kernel) rfl trivial ?_
      refine sim_seg [(.iload 5, 0, 0, 0), (.iload 9, 0, 0, 0), (.iconst 1, 0, 0, 1), (.isub, 0, 0, 0), (.iload 6, 0, 0, 0), (.imul, 0, 0, 0), (.iadd, 0, 0, 0), (.istore 4, 0, 0, 0)] [] (q := 115) (L' := [some (.ref p0), none, some (.int p2), some (.int x25), some (.int (p5 + ((x9 - (J 1)) * p6))), some (.int p5), some (.int p6), some (.int p7), some (.int s0), some (.int x9)]) (st' := []) (v1 := v) (by decide +kernel) rfl trivial ?_
      exact sim_wk (L0 := [some (.ref p0), none, some (.int p2), some (.int x25), some (.int (p5 + ((x9 - (J 1)) * p6))), none, none, some (.int p7), none, none]) ⟨rfl, rfl, rfl, rfl, rfl, trivial⟩ (sK_sg_longestGap_115 N i23 j23 S v p0 p2 x25 (p5 + ((x9 - (J 1)) * p6)) p7)
  · exact sim_wk (L0 := [some (.ref p0), none, some (.int p2), some (.int p3), some (.int p4), none, none, some (.int p7), none, none]) ⟨rfl, rfl, rfl, rfl, rfl, trivial⟩ (sK_sg_longestGap_115 N i23 j23 S v p0 p2 p3 p4 p7)
theorem sK_sg_longestGap_58 (N : Nat) (i23 : Nat → Int32 → Int32 → Int32 → Int32 → Int32 → Int32 → Option Int32) {S : shp} {v : vl} (j23 : ∀ (p0 : Nat) (p2 : Int32) (p3 : Int32) (p4 : Int32) (p5 : Int32) (p6 : Int32) (p7 : Int32), SimK B_sg_longestGap 23 [some (.ref p0), none, some (.int p2), some (.int p3), some (.int p4), some (.int p5), some (.int p6), some (.int p7), none, none] [] S v (i23 p0 p2 p3 p4 p5 p6 p7) (ρri S v)) (S1 : shp) (v1 : vl) (p0 : Nat) (p2 : Int32) (p3 : Int32) (p4 : Int32) (p5 : Int32) (p6 : Int32) (p7 : Int32) (s0 : Int32) : SimK B_sg_longestGap 58 [some (.ref p0), none, some (.int p2), some (.int p3), some (.int p4), some (.int p5), some (.int p6), some (.int p7), none, none] [.int s0] S v (K_sg_longestGap_58 N i23 S v p0 p2 p3 p4 p5 p6 p7 s0) (ρri S v) := sK_sg_longestGap_580 N  i23 S v j23  p0 p2 p3 p4 p5 p6 p7 s0
noncomputable def Y_sg_longestGap_23 (N : Nat)  (i23 : Nat → Int32 → Int32 → Int32 → Int32 → Int32 → Int32 → Option Int32) (S : shp) (v : vl)  (p0 : Nat) (p2 : Int32) (p3 : Int32) (p4 : Int32) (p5 : Int32) (p6 : Int32) (p7 : Int32) : Option Int32 :=
  grd (kin S p0 = some (0, 3)) <| (if (gi v p0 8) < p7 then (F_ma_max p3 (p2 - p4) S v).bind fun x3 => some (x3) else (if p7 < (gi v p0 8) then (gr S p0 10).bind fun r4 => grd (kin S r4 = some (1, 8)) <| grd (vp_in p7 (alen S r4)) <| (F_ma_min ((gi v r4 (Int32.toNatClampNeg p7)) - (J 1)) p2 S v).bind fun x8 => K_sg_longestGap_58 N i23 S v p0 p2 p3 p4 p5 p6 p7 x8 else K_sg_longestGap_58 N i23 S v p0 p2 p3 p4 p5 p6 p7 p2))
noncomputable def K_sg_longestGap_23 (N : Nat)  (n : Nat) (S : shp) (v : vl) : Nat → Int32 → Int32 → Int32 → Int32 → Int32 → Int32 → Option Int32 :=
  Nat.rec (motive := fun _ => Nat → Int32 → Int32 → Int32 → Int32 → Int32 → Int32 → Option Int32) (fun _ _ _ _ _ _ _ => none) (fun _ i => Y_sg_longestGap_23 N  i S v) n
theorem sY_sg_longestGap_23 (N : Nat)  (i23 : Nat → Int32 → Int32 → Int32 → Int32 → Int32 → Int32 → Option Int32) (S : shp) (v : vl)  (j23 : ∀ (p0 : Nat) (p2 : Int32) (p3 : Int32) (p4 : Int32) (p5 : Int32) (p6 : Int32) (p7 : Int32), SimK B_sg_longestGap 23 [some (.ref p0), none, some (.int p2), some (.int p3), some (.int p4), some (.int p5), some (.int p6), some (.int p7), none, none] [] S v (i23 p0 p2 p3 p4 p5 p6 p7) (ρri S v))  (p0 : Nat) (p2 : Int32) (p3 : Int32) (p4 : Int32) (p5 : Int32) (p6 : Int32) (p7 : Int32) : SimK B_sg_longestGap 23 [some (.ref p0), none, some (.int p2), some (.int p3), some (.int p4), some (.int p5), some (.int p6), some (.int p7), none, none] [] S v (Y_sg_longestGap_23 N  i23 S v  p0 p2 p3 p4 p5 p6 p7) (ρri S v) := by
  unfold Y_sg_longestGap_23
  refine sim_grd fun h2 => ?_
  refine sim_seg [(.iload 7, 0, 0, 0), (.aload_n 0, 0, 0, 0), (.getfield 35, 3, 8, 0)] [] (q := 29) (L' := [some (.ref p0), none, some (.int p2), some (.int p3), some (.int p4), some (.int p5), some (.int p6), some (.int p7), none, none]) (st' := [.int (gi v p0 8), .int p7]) (v1 := v) (by decide +kernel) rfl ⟨h2, trivial⟩ ?_
  refine sim_gt (o := 132) (tg := 161) (f := 32) (by decide +kernel) rfl rfl (fun _ => ?_) (fun _ => ?_)
  · refine sim_seg [(.iload_n 3, 0, 0, 0), (.iload_n 2, 0, 0, 0), (.iload 4, 0, 0, 0), (.isub, 0, 0, 0)] [] (q := 166) (L' := [some (.ref p0), none, some (.int p2), some (.int p3), some (.int p4), some (.int p5), some (.int p6), some (.int p7), none, none]) (st' := [.int (p2 - p4), .int p3]) (v1 := v) (by decide +kernel) rfl trivial ?_
    refine sc_ri (pc3 := 169) (cf_S (idx := 84) [.int p3, .int (p2 - p4)] m_ma_max ⟨by decide, by decide⟩ (List.mem_of_getElem? (i := 1429) (by decide +kernel)) rfl (Nat.le_of_ble_eq_true rfl) (by decide +kernel) (Nat.le_of_ble_eq_true rfl) rfl) (ok_ma_max p3 (p2 - p4) S v) rfl (fun x3 => ?_)
    exact sim_iret (by decide +kernel) rfl rfl rfl
  · refine sim_seg [(.iload 7, 0, 0, 0), (.aload_n 0, 0, 0, 0), (.getfield 35, 3, 8, 0)] [] (q := 38) (L' := [some (.ref p0), none, some (.int p2), some (.int p3), some (.int p4), some (.int p5), some (.int p6), some (.int p7), none, none]) (st' := [.int (gi v p0 8), .int p7]) (v1 := v) (by decide +kernel) rfl ⟨h2, trivial⟩ ?_
    refine sim_ge (o := 19) (tg := 57) (f := 41) (by decide +kernel) rfl rfl (fun _ => ?_) (fun _ => ?_)
    · refine sim_bind fun r4 h5 => ?_
      refine sim_grd fun h6 => ?_
      refine sim_grd fun h7 => ?_
      refine sim_seg [(.aload_n 0, 0, 0, 0), (.getfield 9, 3, 10, 0), (.iload 7, 0, 0, 0), (.iaload, 0, 0, 0), (.iconst 1, 0, 0, 1), (.isub, 0, 0, 0), (.iload_n 2, 0, 0, 0)] [r4] (q := 51) (L' := [some (.ref p0), none, some (.int p2), some (.int p3), some (.int p4), some (.int p5), some (.int p6), some (.int p7), none, none]) (st' := [.int p2, .int ((gi v r4 (Int32.toNatClampNeg p7)) - (J 1))]) (v1 := v) (by decide +kernel) rfl ⟨⟨h2, h5⟩, ⟨(Or.inl (kin_alen h6)), h7⟩, trivial⟩ ?_
      refine sc_ri (pc3 := 54) (cf_S (idx := 78) [.int ((gi v r4 (Int32.toNatClampNeg p7)) - (J 1)), .int p2] m_ma_min ⟨by decide, by decide⟩ (List.mem_of_getElem? (i := 1428) (by decide +kernel)) rfl (Nat.le_of_ble_eq_true rfl) (by decide +kernel) (Nat.le_of_ble_eq_true rfl) rfl) (ok_ma_min ((gi v r4 (Int32.toNatClampNeg p7)) - (J 1)) p2 S v) rfl (fun x8 => ?_)
      refine sim_seg [(.goto 4, 0, 0, 0)] [] (q := 58) (L' := [some (.ref p0), none, some (.int p2), some (.int p3), some (.int p4), some (.int p5), some (.int p6), some (.int p7), none, none]) (st' := [.int x8]) (v1 := v) (by decide +kernel) rfl trivial ?_
      exact sK_sg_longestGap_58 N i23 j23 S v p0 p2 p3 p4 p5 p6 p7 x8
    · refine sim_seg [(.iload_n 2, 0, 0, 0)] [] (q := 58) (L' := [some (.ref p0), none, some (.int p2), some (.int p3), some (.int p4), some (.int p5), some (.int p6), some (.int p7), none, none]) (st' := [.int p2]) (v1 := v) (by decide +kernel) rfl trivial ?_
      exact sK_sg_longestGap_58 N i23 j23 S v p0 p2 p3 p4 p5 p6 p7 p2
theorem sR_sg_longestGap_23 (N : Nat)  (S : shp) (v : vl)  (n : Nat) : ∀  (p0 : Nat) (p2 : Int32) (p3 : Int32) (p4 : Int32) (p5 : Int32) (p6 : Int32) (p7 : Int32), SimK B_sg_longestGap 23 [some (.ref p0), none, some (.int p2), some (.int p3), some (.int p4), some (.int p5), some (.int p6), some (.int p7), none, none] [] S v (K_sg_longestGap_23 N  n S v  p0 p2 p3 p4 p5 p6 p7) (ρri S v) := by
  induction n with
  | zero => intro p0 p2 p3 p4 p5 p6 p7; exact sim_none
  | succ k ih => intro p0 p2 p3 p4 p5 p6 p7; exact sY_sg_longestGap_23 N   _ S v  ih p0 p2 p3 p4 p5 p6 p7
theorem sK_sg_longestGap_23 (N : Nat)  (n : Nat) (S : shp) (v : vl) (p0 : Nat) (p2 : Int32) (p3 : Int32) (p4 : Int32) (p5 : Int32) (p6 : Int32) (p7 : Int32) : SimK B_sg_longestGap 23 [some (.ref p0), none, some (.int p2), some (.int p3), some (.int p4), some (.int p5), some (.int p6), some (.int p7), none, none] [] S v (K_sg_longestGap_23 N  n S v  p0 p2 p3 p4 p5 p6 p7) (ρri S v) := sR_sg_longestGap_23 N   S v  n  p0 p2 p3 p4 p5 p6 p7
noncomputable def F_sg_longestGap (N : Nat) (a0 : Nat) (b1 : Int32) (b2 : Int32) (S : shp) (v : vl) : Option Int32 :=
  grd (kin S a0 = some (0, 3)) <| K_sg_longestGap_23 N  N S v a0 b2 (J 0) b1 (gi v a0 1) (gi v a0 0) (gi v a0 9)
theorem ok_sg_longestGap (N : Nat) (a0 : Nat) (b1 : Int32) (b2 : Int32) (S : shp) (v : vl) : SimK B_sg_longestGap 0 (entB (bN B_sg_longestGap) [.ref a0, .int b1, .int b2]) [] S v (F_sg_longestGap N a0 b1 b2 S v) (ρri S v) := by
  show SimK B_sg_longestGap 0 [some (.ref a0), some (.int b1), some (.int b2), none, none, none, none, none, none, none] [] S v (F_sg_longestGap N a0 b1 b2 S v) _
  unfold F_sg_longestGap
  refine sim_seg [(.iconst 0, 0, 0, 0), (.istore_n 3, 0, 0, 0)] [] (q := 2) (L' := [some (.ref a0), some (.int b1), some (.int b2), some (.int (J 0)), none, none, none, none, none, none]) (st' := []) (v1 := v) (by decide +kernel) rfl trivial ?_
  refine sim_seg [(.iload_n 1, 0, 0, 0), (.istore 4, 0, 0, 0)] [] (q := 5) (L' := [some (.ref a0), some (.int b1), some (.int b2), some (.int (J 0)), some (.int b1), none, none, none, none, none]) (st' := []) (v1 := v) (by decide +kernel) rfl trivial ?_
  refine sim_grd fun h1 => ?_
  refine sim_seg [(.aload_n 0, 0, 0, 0), (.getfield 22, 3, 1, 0), (.istore 5, 0, 0, 0)] [] (q := 11) (L' := [some (.ref a0), some (.int b1), some (.int b2), some (.int (J 0)), some (.int b1), some (.int (gi v a0 1)), none, none, none, none]) (st' := []) (v1 := v) (by decide +kernel) rfl ⟨h1, trivial⟩ ?_
  refine sim_seg [(.aload_n 0, 0, 0, 0), (.getfield 18, 3, 0, 0), (.istore 6, 0, 0, 0)] [] (q := 17) (L' := [some (.ref a0), some (.int b1), some (.int b2), some (.int (J 0)), some (.int b1), some (.int (gi v a0 1)), some (.int (gi v a0 0)), none, none, none]) (st' := []) (v1 := v) (by decide +kernel) rfl ⟨h1, trivial⟩ ?_
  refine sim_seg [(.aload_n 0, 0, 0, 0), (.getfield 38, 3, 9, 0), (.istore 7, 0, 0, 0)] [] (q := 23) (L' := [some (.ref a0), some (.int b1), some (.int b2), some (.int (J 0)), some (.int b1), some (.int (gi v a0 1)), some (.int (gi v a0 0)), some (.int (gi v a0 9)), none, none]) (st' := []) (v1 := v) (by decide +kernel) rfl ⟨h1, trivial⟩ ?_
  exact sim_wk (L0 := [some (.ref a0), none, some (.int b2), some (.int (J 0)), some (.int b1), some (.int (gi v a0 1)), some (.int (gi v a0 0)), some (.int (gi v a0 9)), none, none]) ⟨rfl, rfl, rfl, rfl, rfl, rfl, rfl, trivial⟩ (sK_sg_longestGap_23 N N S v a0 b2 (J 0) b1 (gi v a0 1) (gi v a0 0) (gi v a0 9))
def B_gc_longestSilence : bd := (⟨"GateCounter", "longestSilence", "(I)I"⟩, prog_1_method_31_code, 2, (some .int), [], 5, 8)
theorem m_gc_longestSilence : mV B_gc_longestSilence 5 1 := ⟨⟨⟨by decide +kernel, Or.inl rfl⟩, rfl, (List.mem_of_getElem? (i := 1423) (by decide +kernel)), by decide +kernel, (List.mem_of_getElem? (i := 95) (by decide +kernel)), ⟨by decide, by decide⟩, by decide⟩, rfl, (by unfold nar; decide +kernel), (List.mem_of_getElem? (i := 1421) (by decide +kernel)), rfl, (List.mem_of_getElem? (i := 1422) (by decide +kernel))⟩
noncomputable def F_gc_longestSilence (N : Nat) (a0 : Nat) (b1 : Int32) (S : shp) (v : vl) : Option (Nat ⊕ Int32) :=
  bx (F_gc_requireWithin b1 (J 1) (J 100000) S v) (fun k0 => some (.inl k0)) fun _ => grd (kin S a0 = some (0, 5)) <| (gr S a0 5).bind fun r2 => grd (kin S r2 = some (0, 4)) <| (gr S r2 7).bind fun r5 => grd (kin S r5 = some (0, 3)) <| (F_sg_longestGap N r5 (gi v r2 0) ((gi v r2 0) + b1) S v).bind fun x8 => some (.inr x8)
theorem ok_gc_longestSilence (N : Nat) (a0 : Nat) (b1 : Int32) (S : shp) (v : vl) : SimK B_gc_longestSilence 0 (entB (bN B_gc_longestSilence) [.ref a0, .int b1]) [] S v (F_gc_longestSilence N a0 b1 S v) (ρxi S v) := by
  show SimK B_gc_longestSilence 0 [some (.ref a0), some (.int b1)] [] S v (F_gc_longestSilence N a0 b1 S v) _
  unfold F_gc_longestSilence
  refine sim_seg [(.iload_n 1, 0, 0, 0), (.iconst 1, 0, 0, 1), (.ldc 192, 0, 0, 100000)] [] (q := 4) (L' := [some (.ref a0), some (.int b1)]) (st' := [.int (J 100000), .int (J 1), .int b1]) (v1 := v) (by decide +kernel) rfl trivial ?_
  refine sc_xv (pc3 := 7) (cf_S (idx := 170) [.int b1, .int (J 1), .int (J 100000)] m_gc_requireWithin ⟨by decide, by decide⟩ (List.mem_of_getElem? (i := 1321) (by decide +kernel)) rfl (Nat.le_of_ble_eq_true rfl) (by decide +kernel) (Nat.le_of_ble_eq_true rfl) rfl) (ok_gc_requireWithin b1 (J 1) (J 100000) S v) rfl rfl (fun k0 b hb => by cases hb; rfl) (fun _ => ?_)
  refine sim_grd fun h1 => ?_
  refine sim_bind fun r2 h3 => ?_
  refine sim_grd fun h4 => ?_
  refine sim_bind fun r5 h6 => ?_
  refine sim_seg [(.aload_n 0, 0, 0, 0), (.getfield 26, 5, 5, 0), (.getfield 69, 4, 7, 0), (.aload_n 0, 0, 0, 0), (.getfield 26, 5, 5, 0), (.getfield 84, 4, 0, 0), (.aload_n 0, 0, 0, 0), (.getfield 26, 5, 5, 0), (.getfield 84, 4, 0, 0), (.iload_n 1, 0, 0, 0), (.iadd, 0, 0, 0)] [r2, r5, r2, r2] (q := 30) (L' := [some (.ref a0), some (.int b1)]) (st' := [.int ((gi v r2 0) + b1), .int (gi v r2 0), .ref r5]) (v1 := v) (by decide +kernel) rfl ⟨⟨h1, h3⟩, ⟨h4, h6⟩, ⟨h1, h3⟩, h4, ⟨h1, h3⟩, h4, trivial⟩ ?_
  refine sim_grd fun h7 => ?_
  refine sc_ri (pc3 := 33) (cf_V (idx := 246) (ci := 3) [.int (gi v r2 0), .int ((gi v r2 0) + b1)] m_sg_longestGap (by decide) ⟨by decide, by decide⟩ (List.mem_of_getElem? (i := 1424) (by decide +kernel)) rfl (Nat.le_of_ble_eq_true rfl) h7 (by decide +kernel) (Nat.le_of_ble_eq_true rfl) rfl) (ok_sg_longestGap N r5 (gi v r2 0) ((gi v r2 0) + b1) S v) rfl (fun x8 => ?_)
  exact sim_iret (by decide +kernel) rfl rfl rfl
def B_gc_gateFor : bd := (⟨"GateCounter", "gateFor", "(I)I"⟩, prog_1_method_33_code, 4, (some .int), [], 5, 8)
theorem m_gc_gateFor : mV B_gc_gateFor 5 1 := ⟨⟨⟨by decide +kernel, Or.inl rfl⟩, rfl, (List.mem_of_getElem? (i := 1436) (by decide +kernel)), by decide +kernel, (List.mem_of_getElem? (i := 95) (by decide +kernel)), ⟨by decide, by decide⟩, by decide⟩, rfl, (by unfold nar; decide +kernel), (List.mem_of_getElem? (i := 1434) (by decide +kernel)), rfl, (List.mem_of_getElem? (i := 1435) (by decide +kernel))⟩
noncomputable def Y_gc_gateFor_36 (N : Nat)  (i36 : shp → vl → Nat → Int32 → Int32 → Int32 → Option (Nat ⊕ (Int32 × shp × vl)))  (S : shp) (v : vl) (p0 : Nat) (p1 : Int32) (p2 : Int32) (p3 : Int32) : Option (Nat ⊕ (Int32 × shp × vl)) :=
  (if (J 9999) < p3 then some (.inr ((J (-1)), S, v)) else grd (kin S p0 = some (0, 5)) <| (gr S p0 6).bind fun r19 => grd (kin S r19 = some (0, 4)) <| (F_st_toClockEdge N r19 S v).bind fun (x22, w23) => (if x22 = (J 0) then some (.inr ((J (-1)), S, w23)) else (gr S r19 7).bind fun r24 => grd (kin S r24 = some (0, 3)) <| (F_gc_digitsOf N ((gi w23 r24 3) - p2) S w23).bind fun x27 => (if x27 < p1 then i36 S w23 p0 p1 p2 (p3 + (J 1)) else some (.inr (p3, S, w23)))))
noncomputable def K_gc_gateFor_36 (N : Nat)  (n : Nat)  : shp → vl → Nat → Int32 → Int32 → Int32 → Option (Nat ⊕ (Int32 × shp × vl)) :=
  Nat.rec (motive := fun _ => shp → vl → Nat → Int32 → Int32 → Int32 → Option (Nat ⊕ (Int32 × shp × vl))) (fun _ _ _ _ _ _ => none) (fun _ i => Y_gc_gateFor_36 N  i ) n
theorem sY_gc_gateFor_36 (N : Nat) (S0 : shp) (v0 : vl)  (i36 : shp → vl → Nat → Int32 → Int32 → Int32 → Option (Nat ⊕ (Int32 × shp × vl)))   (j36 : ∀ (S : shp) (v : vl) (p0 : Nat) (p1 : Int32) (p2 : Int32) (p3 : Int32), SimK B_gc_gateFor 36 [some (.ref p0), some (.int p1), some (.int p2), some (.int p3)] [] S v (i36 S v p0 p1 p2 p3) (ρzi S0 v0)) (S : shp) (v : vl) (p0 : Nat) (p1 : Int32) (p2 : Int32) (p3 : Int32) : SimK B_gc_gateFor 36 [some (.ref p0), some (.int p1), some (.int p2), some (.int p3)] [] S v (Y_gc_gateFor_36 N  i36  S v p0 p1 p2 p3) (ρzi S0 v0) := by
  unfold Y_gc_gateFor_36
  refine sim_seg [(.iload_n 3, 0, 0, 0), (.sipush 9999, 0, 0, 9999)] [] (q := 40) (L' := [some (.ref p0), some (.int p1), some (.int p2), some (.int p3)]) (st' := [.int (J 9999), .int p3]) (v1 := v) (by decide +kernel) rfl trivial ?_
  refine sim_gt (o := 40) (tg := 80) (f := 43) (by decide +kernel) rfl rfl (fun _ => ?_) (fun _ => ?_)
  · refine sim_seg [(.iconst (-1), 0, 0, (-1))] [] (q := 81) (L' := [some (.ref p0), some (.int p1), some (.int p2), some (.int p3)]) (st' := [.int (J (-1))]) (v1 := v) (by decide +kernel) rfl trivial ?_
    exact sim_iret (by decide +kernel) rfl rfl rfl
  · refine sim_grd fun h18 => ?_
    refine sim_bind fun r19 h20 => ?_
    refine sim_seg [(.aload_n 0, 0, 0, 0), (.getfield 30, 5, 6, 0)] [r19] (q := 47) (L' := [some (.ref p0), some (.int p1), some (.int p2), some (.int p3)]) (st' := [.ref r19]) (v1 := v) (by decide +kernel) rfl ⟨⟨h18, h20⟩, trivial⟩ ?_
    refine sim_grd fun h21 => ?_
    refine sc_pi (pc3 := 50) (cf_V (idx := 252) (ci := 4) [] m_st_toClockEdge (by decide) ⟨by decide, by decide⟩ (List.mem_of_getElem? (i := 806) (by decide +kernel)) rfl (Nat.le_of_ble_eq_true rfl) h21 (by decide +kernel) (Nat.le_of_ble_eq_true rfl) rfl) (ok_st_toClockEdge N r19 S v) rfl (fun x22 w23 => ?_)
    refine sim_eq0 (o := 30) (tg := 80) (f := 53) (by decide +kernel) rfl rfl (fun _ => ?_) (fun _ => ?_)
    · refine sim_seg [(.iconst (-1), 0, 0, (-1))] [] (q := 81) (L' := [some (.ref p0), some (.int p1), some (.int p2), some (.int p3)]) (st' := [.int (J (-1))]) (v1 := w23) (by decide +kernel) rfl trivial ?_
      exact sim_iret (by decide +kernel) rfl rfl rfl
    · refine sim_bind fun r24 h25 => ?_
      refine sim_grd fun h26 => ?_
      refine sim_seg [(.aload_n 0, 0, 0, 0), (.getfield 30, 5, 6, 0), (.getfield 69, 4, 7, 0), (.getfield 97, 3, 3, 0), (.iload_n 2, 0, 0, 0), (.isub, 0, 0, 0)] [r19, r24] (q := 65) (L' := [some (.ref p0), some (.int p1), some (.int p2), some (.int p3)]) (st' := [.int ((gi w23 r24 3) - p2)]) (v1 := w23) (by decide +kernel) rfl ⟨⟨h18, h20⟩, ⟨h21, h25⟩, h26, trivial⟩ ?_
      refine sc_ri (pc3 := 68) (cf_S (idx := 255) [.int ((gi w23 r24 3) - p2)] m_gc_digitsOf ⟨by decide, by decide⟩ (List.mem_of_getElem? (i := 851) (by decide +kernel)) rfl (Nat.le_of_ble_eq_true rfl) (by decide +kernel) (Nat.le_of_ble_eq_true rfl) rfl) (ok_gc_digitsOf N ((gi w23 r24 3) - p2) S w23) rfl (fun x27 => ?_)
      refine sim_seg [(.iload_n 1, 0, 0, 0)] [] (q := 69) (L' := [some (.ref p0), some (.int p1), some (.int p2), some (.int p3)]) (st' := [.int p1, .int x27]) (v1 := w23) (by decide +kernel) rfl trivial ?_
      refine sim_lt' (o := 5) (tg := 74) (f := 72) (by decide +kernel) rfl rfl (fun _ => ?_) (fun _ => ?_)
      · refine sim_seg [(.iinc 3 1, 0, 0, 1)] [] (q := 77) (L' := [some (.ref p0), some (.int p1), some (.int p2), some (.int (p3 + (J 1)))]) (st' := []) (v1 := w23) (by decide +kernel) rfl trivial ?_
        refine sim_seg [(.goto (-41), 0, 0, 0)] [] (q := 36) (L' := [some (.ref p0), some (.int p1), some (.int p2), some (.int (p3 + (J 1)))]) (st' := []) (v1 := w23) (by decide +kernel) rfl trivial ?_
        exact j36 S w23 p0 p1 p2 (p3 + (J 1))
      · refine sim_seg [(.iload_n 3, 0, 0, 0)] [] (q := 73) (L' := [some (.ref p0), some (.int p1), some (.int p2), some (.int p3)]) (st' := [.int p3]) (v1 := w23) (by decide +kernel) rfl trivial ?_
        exact sim_iret (by decide +kernel) rfl rfl rfl
theorem sR_gc_gateFor_36 (N : Nat) (S0 : shp) (v0 : vl)    (n : Nat) : ∀ (S : shp) (v : vl) (p0 : Nat) (p1 : Int32) (p2 : Int32) (p3 : Int32), SimK B_gc_gateFor 36 [some (.ref p0), some (.int p1), some (.int p2), some (.int p3)] [] S v (K_gc_gateFor_36 N  n  S v p0 p1 p2 p3) (ρzi S0 v0) := by
  induction n with
  | zero => intro S v p0 p1 p2 p3; exact sim_none
  | succ k ih => intro S v p0 p1 p2 p3; exact sY_gc_gateFor_36 N S0 v0  _   ih S v p0 p1 p2 p3
theorem sK_gc_gateFor_36 (N : Nat) (S0 : shp) (v0 : vl)   (n : Nat) (S : shp) (v : vl) (p0 : Nat) (p1 : Int32) (p2 : Int32) (p3 : Int32) : SimK B_gc_gateFor 36 [some (.ref p0), some (.int p1), some (.int p2), some (.int p3)] [] S v (K_gc_gateFor_36 N  n  S v p0 p1 p2 p3) (ρzi S0 v0) := sR_gc_gateFor_36 N S0 v0   n  S v p0 p1 p2 p3
noncomputable def F_gc_gateFor (N : Nat) (a0 : Nat) (b1 : Int32) (S : shp) (v : vl) : Option (Nat ⊕ (Int32 × shp × vl)) :=
  bx (F_gc_requireWithin b1 (J 1) (J 6) S v) (fun k0 => some (.inl k0)) fun _ => grd (kin S a0 = some (0, 5)) <| (gr S a0 6).bind fun r2 => (F_gc_fresh N a0 r2 S v).bind fun (q4, S5, w6) => oc2 q4 none fun r8 => grd (kin S5 r8 = some (0, 4)) <| (F_st_toClockEdge N r8 S5 w6).bind fun (x10, w11) => (if x10 = (J 0) then some (.inr ((J (-1)), S5, w11)) else (gr S5 a0 6).bind fun r12 => grd (kin S5 r12 = some (0, 4)) <| (gr S5 r12 7).bind fun r15 => grd (kin S5 r15 = some (0, 3)) <| K_gc_gateFor_36 N  N S5 w11 a0 b1 (gi w11 r15 3) (J 1))
theorem ok_gc_gateFor (N : Nat) (a0 : Nat) (b1 : Int32) (S : shp) (v : vl) : SimK B_gc_gateFor 0 (entB (bN B_gc_gateFor) [.ref a0, .int b1]) [] S v (F_gc_gateFor N a0 b1 S v) (ρzi S v) := by
  show SimK B_gc_gateFor 0 [some (.ref a0), some (.int b1), none, none] [] S v (F_gc_gateFor N a0 b1 S v) _
  unfold F_gc_gateFor
  refine sim_seg [(.iload_n 1, 0, 0, 0), (.iconst 1, 0, 0, 1), (.bipush 6, 0, 0, 6)] [] (q := 4) (L' := [some (.ref a0), some (.int b1), none, none]) (st' := [.int (J 6), .int (J 1), .int b1]) (v1 := v) (by decide +kernel) rfl trivial ?_
  refine sc_xv (pc3 := 7) (cf_S (idx := 170) [.int b1, .int (J 1), .int (J 6)] m_gc_requireWithin ⟨by decide, by decide⟩ (List.mem_of_getElem? (i := 1321) (by decide +kernel)) rfl (Nat.le_of_ble_eq_true rfl) (by decide +kernel) (Nat.le_of_ble_eq_true rfl) rfl) (ok_gc_requireWithin b1 (J 1) (J 6) S v) rfl rfl (fun k0 b hb => by cases hb; rfl) (fun _ => ?_)
  refine sim_grd fun h1 => ?_
  refine sim_bind fun r2 h3 => ?_
  refine sim_seg [(.aload_n 0, 0, 0, 0), (.aload_n 0, 0, 0, 0), (.getfield 30, 5, 6, 0)] [r2] (q := 12) (L' := [some (.ref a0), some (.int b1), none, none]) (st' := [.ref r2, .ref a0]) (v1 := v) (by decide +kernel) rfl ⟨⟨h1, h3⟩, trivial⟩ ?_
  refine sc_gq (pc3 := 15) (cf_V (idx := 196) (ci := 5) [.ref r2] m_gc_fresh (by decide) ⟨by decide, by decide⟩ (List.mem_of_getElem? (i := 645) (by decide +kernel)) rfl (Nat.le_of_ble_eq_true rfl) h1 (by decide +kernel) (Nat.le_of_ble_eq_true rfl) rfl) (ok_gc_fresh N a0 r2 S v) rfl (fun q4 S5 w6 h7 => ?_)
  refine sim_oc2 (fun _ => sim_none) (fun r8 _ => ?_)
  refine sim_grd fun h9 => ?_
  refine sc_pi (pc3 := 18) (cf_V (idx := 252) (ci := 4) [] m_st_toClockEdge (by decide) ⟨by decide, by decide⟩ (List.mem_of_getElem? (i := 806) (by decide +kernel)) rfl (Nat.le_of_ble_eq_true rfl) h9 (by decide +kernel) (Nat.le_of_ble_eq_true rfl) rfl) (ok_st_toClockEdge N r8 S5 w6) rfl (fun x10 w11 => ?_)
  refine sim_ne0 (o := 5) (tg := 23) (f := 21) (by decide +kernel) rfl rfl (fun _ => ?_) (fun _ => ?_)
  · refine sim_seg [(.iconst (-1), 0, 0, (-1))] [] (q := 22) (L' := [some (.ref a0), some (.int b1), none, none]) (st' := [.int (J (-1))]) (v1 := w11) (by decide +kernel) rfl trivial ?_
    exact sim_iret (by decide +kernel) rfl rfl rfl
  · refine sim_bind fun r12 h13 => ?_
    refine sim_grd fun h14 => ?_
    refine sim_bind fun r15 h16 => ?_
    refine sim_grd fun h17 => ?_
    refine sim_seg [(.aload_n 0, 0, 0, 0), (.getfield 30, 5, 6, 0), (.getfield 69, 4, 7, 0), (.getfield 97, 3, 3, 0), (.istore_n 2, 0, 0, 0)] [r12, r15] (q := 34) (L' := [some (.ref a0), some (.int b1), some (.int (gi w11 r15 3)), none]) (st' := []) (v1 := w11) (by decide +kernel) rfl ⟨⟨(h7.2.2.2.2 _ _ h1), h13⟩, ⟨h14, h16⟩, h17, trivial⟩ ?_
    refine sim_seg [(.iconst 1, 0, 0, 1), (.istore_n 3, 0, 0, 0)] [] (q := 36) (L' := [some (.ref a0), some (.int b1), some (.int (gi w11 r15 3)), some (.int (J 1))]) (st' := []) (v1 := w11) (by decide +kernel) rfl trivial ?_
    exact sK_gc_gateFor_36 N S v N S5 w11 a0 b1 (gi w11 r15 3) (J 1)
def B_gc_periodsFor : bd := (⟨"GateCounter", "periodsFor", "(I)I"⟩, prog_1_method_34_code, 7, (some .int), [], 5, 8)
theorem m_gc_periodsFor : mV B_gc_periodsFor 5 1 := ⟨⟨⟨by decide +kernel, Or.inl rfl⟩, rfl, (List.mem_of_getElem? (i := 1443) (by decide +kernel)), by decide +kernel, (List.mem_of_getElem? (i := 95) (by decide +kernel)), ⟨by decide, by decide⟩, by decide⟩, rfl, (by unfold nar; decide +kernel), (List.mem_of_getElem? (i := 1441) (by decide +kernel)), rfl, (List.mem_of_getElem? (i := 1442) (by decide +kernel))⟩
noncomputable def Y_gc_periodsFor_52 (N : Nat)  (i52 : shp → vl → Nat → Int32 → Nat → Int32 → Int32 → Option (Nat ⊕ (Int32 × shp × vl)))  (S : shp) (v : vl) (p0 : Nat) (p1 : Int32) (p3 : Nat) (p4 : Int32) (p5 : Int32) : Option (Nat ⊕ (Int32 × shp × vl)) :=
  (if (J 999) < p5 then some (.inr ((J (-1)), S, v)) else grd (kin S p0 = some (0, 5)) <| (gr S p0 5).bind fun r22 => grd (kin S r22 = some (0, 4)) <| (gr S r22 7).bind fun r25 => grd (kin S r25 = some (0, 3)) <| (F_sg_timeOfOutput N r25 ((J 1) + p5) S v).bind fun x28 => (if x28 = (J (-1)) then some (.inr ((J (-1)), S, v)) else grd (kin S p3 = some (0, 0)) <| (F_ck_passTo N p3 x28 S v).bind fun w30 => (F_gc_digitsOf N ((gi w30 p3 5) - p4) S w30).bind fun x31 => (if x31 < p1 then i52 S w30 p0 p1 p3 p4 (p5 + (J 1)) else some (.inr (p5, S, w30)))))
noncomputable def K_gc_periodsFor_52 (N : Nat)  (n : Nat)  : shp → vl → Nat → Int32 → Nat → Int32 → Int32 → Option (Nat ⊕ (Int32 × shp × vl)) :=
  Nat.rec (motive := fun _ => shp → vl → Nat → Int32 → Nat → Int32 → Int32 → Option (Nat ⊕ (Int32 × shp × vl))) (fun _ _ _ _ _ _ _ => none) (fun _ i => Y_gc_periodsFor_52 N  i ) n
theorem sY_gc_periodsFor_52 (N : Nat) (S0 : shp) (v0 : vl)  (i52 : shp → vl → Nat → Int32 → Nat → Int32 → Int32 → Option (Nat ⊕ (Int32 × shp × vl)))   (j52 : ∀ (S : shp) (v : vl) (p0 : Nat) (p1 : Int32) (p3 : Nat) (p4 : Int32) (p5 : Int32), SimK B_gc_periodsFor 52 [some (.ref p0), some (.int p1), none, some (.ref p3), some (.int p4), some (.int p5), none] [] S v (i52 S v p0 p1 p3 p4 p5) (ρzi S0 v0)) (S : shp) (v : vl) (p0 : Nat) (p1 : Int32) (p3 : Nat) (p4 : Int32) (p5 : Int32) : SimK B_gc_periodsFor 52 [some (.ref p0), some (.int p1), none, some (.ref p3), some (.int p4), some (.int p5), none] [] S v (Y_gc_periodsFor_52 N  i52  S v p0 p1 p3 p4 p5) (ρzi S0 v0) := by
  unfold Y_gc_periodsFor_52
  refine sim_seg [(.iload 5, 0, 0, 0), (.sipush 999, 0, 0, 999)] [] (q := 57) (L' := [some (.ref p0), some (.int p1), none, some (.ref p3), some (.int p4), some (.int p5), none]) (st' := [.int (J 999), .int p5]) (v1 := v) (by decide +kernel) rfl trivial ?_
  refine sim_gt (o := 56) (tg := 113) (f := 60) (by decide +kernel) rfl rfl (fun _ => ?_) (fun _ => ?_)
  · refine sim_seg [(.iconst (-1), 0, 0, (-1))] [] (q := 114) (L' := [some (.ref p0), some (.int p1), none, some (.ref p3), some (.int p4), some (.int p5), none]) (st' := [.int (J (-1))]) (v1 := v) (by decide +kernel) rfl trivial ?_
    exact sim_iret (by decide +kernel) rfl rfl rfl
  · refine sim_grd fun h21 => ?_
    refine sim_bind fun r22 h23 => ?_
    refine sim_grd fun h24 => ?_
    refine sim_bind fun r25 h26 => ?_
    refine sim_seg [(.aload_n 0, 0, 0, 0), (.getfield 26, 5, 5, 0), (.getfield 69, 4, 7, 0), (.iconst 1, 0, 0, 1), (.iload 5, 0, 0, 0), (.iadd, 0, 0, 0)] [r22, r25] (q := 71) (L' := [some (.ref p0), some (.int p1), none, some (.ref p3), some (.int p4), some (.int p5), none]) (st' := [.int ((J 1) + p5), .ref r25]) (v1 := v) (by decide +kernel) rfl ⟨⟨h21, h23⟩, ⟨h24, h26⟩, trivial⟩ ?_
    refine sim_grd fun h27 => ?_
    refine sc_ri (pc3 := 74) (cf_V (idx := 204) (ci := 3) [.int ((J 1) + p5)] m_sg_timeOfOutput (by decide) ⟨by decide, by decide⟩ (List.mem_of_getElem? (i := 617) (by decide +kernel)) rfl (Nat.le_of_ble_eq_true rfl) h27 (by decide +kernel) (Nat.le_of_ble_eq_true rfl) rfl) (ok_sg_timeOfOutput N r25 ((J 1) + p5) S v) rfl (fun x28 => ?_)
    refine sim_seg [(.istore 6, 0, 0, 0)] [] (q := 76) (L' := [some (.ref p0), some (.int p1), none, some (.ref p3), some (.int p4), some (.int p5), some (.int x28)]) (st' := []) (v1 := v) (by decide +kernel) rfl trivial ?_
    refine sim_seg [(.iload 6, 0, 0, 0), (.iconst (-1), 0, 0, (-1))] [] (q := 79) (L' := [some (.ref p0), some (.int p1), none, some (.ref p3), some (.int p4), some (.int p5), some (.int x28)]) (st' := [.int (J (-1)), .int x28]) (v1 := v) (by decide +kernel) rfl trivial ?_
    refine sim_ne (o := 5) (tg := 84) (f := 82) (by decide +kernel) rfl rfl (fun _ => ?_) (fun _ => ?_)
    · refine sim_seg [(.iconst (-1), 0, 0, (-1))] [] (q := 83) (L' := [some (.ref p0), some (.int p1), none, some (.ref p3), some (.int p4), some (.int p5), some (.int x28)]) (st' := [.int (J (-1))]) (v1 := v) (by decide +kernel) rfl trivial ?_
      exact sim_iret (by decide +kernel) rfl rfl rfl
    · refine sim_seg [(.aload_n 3, 0, 0, 0), (.iload 6, 0, 0, 0)] [] (q := 87) (L' := [some (.ref p0), some (.int p1), none, some (.ref p3), some (.int p4), some (.int p5), some (.int x28)]) (st' := [.int x28, .ref p3]) (v1 := v) (by decide +kernel) rfl trivial ?_
      refine sim_grd fun h29 => ?_
      refine sc_pv (pc3 := 90) (cf_V (idx := 203) (ci := 0) [.int x28] m_ck_passTo (by decide) ⟨by decide, by decide⟩ (List.mem_of_getElem? (i := 1351) (by decide +kernel)) rfl (Nat.le_of_ble_eq_true rfl) h29 (by decide +kernel) (Nat.le_of_ble_eq_true rfl) rfl) (ok_ck_passTo N p3 x28 S v) rfl (fun w30 => ?_)
      refine sim_seg [(.aload_n 3, 0, 0, 0), (.getfield 91, 0, 5, 0), (.iload 4, 0, 0, 0), (.isub, 0, 0, 0)] [] (q := 97) (L' := [some (.ref p0), some (.int p1), none, some (.ref p3), some (.int p4), some (.int p5), some (.int x28)]) (st' := [.int ((gi w30 p3 5) - p4)]) (v1 := w30) (by decide +kernel) rfl ⟨h29, trivial⟩ ?_
      refine sc_ri (pc3 := 100) (cf_S (idx := 255) [.int ((gi w30 p3 5) - p4)] m_gc_digitsOf ⟨by decide, by decide⟩ (List.mem_of_getElem? (i := 851) (by decide +kernel)) rfl (Nat.le_of_ble_eq_true rfl) (by decide +kernel) (Nat.le_of_ble_eq_true rfl) rfl) (ok_gc_digitsOf N ((gi w30 p3 5) - p4) S w30) rfl (fun x31 => ?_)
      refine sim_seg [(.iload_n 1, 0, 0, 0)] [] (q := 101) (L' := [some (.ref p0), some (.int p1), none, some (.ref p3), some (.int p4), some (.int p5), some (.int x28)]) (st' := [.int p1, .int x31]) (v1 := w30) (by decide +kernel) rfl trivial ?_
      refine sim_lt' (o := 6) (tg := 107) (f := 104) (by decide +kernel) rfl rfl (fun _ => ?_) (fun _ => ?_)
      · refine sim_seg [(.iinc 5 1, 0, 0, 1)] [] (q := 110) (L' := [some (.ref p0), some (.int p1), none, some (.ref p3), some (.int p4), some (.int (p5 + (J 1))), some (.int x28)]) (st' := []) (v1 := w30) (by decide +kernel) rfl trivial ?_
        refine sim_seg [(.goto (-58), 0, 0, 0)] [] (q := 52) (L' := [some (.ref p0), some (.int p1), none, some (.ref p3), some (.int p4), some (.int (p5 + (J 1))), some (.int x28)]) (st' := []) (v1 := w30) (by decide +kernel) rfl trivial ?_
        exact sim_wk (L0 := [some (.ref p0), some (.int p1), none, some (.ref p3), some (.int p4), some (.int (p5 + (J 1))), none]) ⟨rfl, rfl, rfl, rfl, rfl, trivial⟩ (j52 S w30 p0 p1 p3 p4 (p5 + (J 1)))
      · refine sim_seg [(.iload 5, 0, 0, 0)] [] (q := 106) (L' := [some (.ref p0), some (.int p1), none, some (.ref p3), some (.int p4), some (.int p5), some (.int x28)]) (st' := [.int p5]) (v1 := w30) (by decide +kernel) rfl trivial ?_
        exact sim_iret (by decide +kernel) rfl rfl rfl
theorem sR_gc_periodsFor_52 (N : Nat) (S0 : shp) (v0 : vl)    (n : Nat) : ∀ (S : shp) (v : vl) (p0 : Nat) (p1 : Int32) (p3 : Nat) (p4 : Int32) (p5 : Int32), SimK B_gc_periodsFor 52 [some (.ref p0), some (.int p1), none, some (.ref p3), some (.int p4), some (.int p5), none] [] S v (K_gc_periodsFor_52 N  n  S v p0 p1 p3 p4 p5) (ρzi S0 v0) := by
  induction n with
  | zero => intro S v p0 p1 p3 p4 p5; exact sim_none
  | succ k ih => intro S v p0 p1 p3 p4 p5; exact sY_gc_periodsFor_52 N S0 v0  _   ih S v p0 p1 p3 p4 p5
theorem sK_gc_periodsFor_52 (N : Nat) (S0 : shp) (v0 : vl)   (n : Nat) (S : shp) (v : vl) (p0 : Nat) (p1 : Int32) (p3 : Nat) (p4 : Int32) (p5 : Int32) : SimK B_gc_periodsFor 52 [some (.ref p0), some (.int p1), none, some (.ref p3), some (.int p4), some (.int p5), none] [] S v (K_gc_periodsFor_52 N  n  S v p0 p1 p3 p4 p5) (ρzi S0 v0) := sR_gc_periodsFor_52 N S0 v0   n  S v p0 p1 p3 p4 p5
noncomputable def F_gc_periodsFor (N : Nat) (a0 : Nat) (b1 : Int32) (S : shp) (v : vl) : Option (Nat ⊕ (Int32 × shp × vl)) :=
  bx (F_gc_requireWithin b1 (J 1) (J 6) S v) (fun k0 => some (.inl k0)) fun _ => grd (kin S a0 = some (0, 5)) <| (gr S a0 5).bind fun r2 => grd (kin S r2 = some (0, 4)) <| (gr S r2 7).bind fun r5 => grd (kin S r5 = some (0, 3)) <| (F_sg_timeOfOutput N r5 (J 1) S v).bind fun x8 => (if x8 = (J (-1)) then some (.inr ((J (-1)), S, v)) else (gr S a0 6).bind fun r9 => (F_gc_fresh N a0 r9 S v).bind fun (q11, S12, w13) => oc2 q11 none fun r15 => grd (kin S12 r15 = some (0, 4)) <| (gr S12 r15 6).bind fun r17 => grd (kin S12 r17 = some (0, 0)) <| (F_ck_passTo N r17 x8 S12 w13).bind fun w20 => K_gc_periodsFor_52 N  N S12 w20 a0 b1 r17 (gi w20 r17 5) (J 1))
theorem ok_gc_periodsFor (N : Nat) (a0 : Nat) (b1 : Int32) (S : shp) (v : vl) : SimK B_gc_periodsFor 0 (entB (bN B_gc_periodsFor) [.ref a0, .int b1]) [] S v (F_gc_periodsFor N a0 b1 S v) (ρzi S v) := by
  show SimK B_gc_periodsFor 0 [some (.ref a0), some (.int b1), none, none, none, none, none] [] S v (F_gc_periodsFor N a0 b1 S v) _
  unfold F_gc_periodsFor
  refine sim_seg [(.iload_n 1, 0, 0, 0), (.iconst 1, 0, 0, 1), (.bipush 6, 0, 0, 6)] [] (q := 4) (L' := [some (.ref a0), some (.int b1), none, none, none, none, none]) (st' := [.int (J 6), .int (J 1), .int b1]) (v1 := v) (by decide +kernel) rfl trivial ?_
  refine sc_xv (pc3 := 7) (cf_S (idx := 170) [.int b1, .int (J 1), .int (J 6)] m_gc_requireWithin ⟨by decide, by decide⟩ (List.mem_of_getElem? (i := 1321) (by decide +kernel)) rfl (Nat.le_of_ble_eq_true rfl) (by decide +kernel) (Nat.le_of_ble_eq_true rfl) rfl) (ok_gc_requireWithin b1 (J 1) (J 6) S v) rfl rfl (fun k0 b hb => by cases hb; rfl) (fun _ => ?_)
  refine sim_grd fun h1 => ?_
  refine sim_bind fun r2 h3 => ?_
  refine sim_grd fun h4 => ?_
  refine sim_bind fun r5 h6 => ?_
  refine sim_seg [(.aload_n 0, 0, 0, 0), (.getfield 26, 5, 5, 0), (.getfield 69, 4, 7, 0), (.iconst 1, 0, 0, 1)] [r2, r5] (q := 15) (L' := [some (.ref a0), some (.int b1), none, none, none, none, none]) (st' := [.int (J 1), .ref r5]) (v1 := v) (by decide +kernel) rfl ⟨⟨h1, h3⟩, ⟨h4, h6⟩, trivial⟩ ?_
  refine sim_grd fun h7 => ?_
  refine sc_ri (pc3 := 18) (cf_V (idx := 204) (ci := 3) [.int (J 1)] m_sg_timeOfOutput (by decide) ⟨by decide, by decide⟩ (List.mem_of_getElem? (i := 617) (by decide +kernel)) rfl (Nat.le_of_ble_eq_true rfl) h7 (by decide +kernel) (Nat.le_of_ble_eq_true rfl) rfl) (ok_sg_timeOfOutput N r5 (J 1) S v) rfl (fun x8 => ?_)
  refine sim_seg [(.istore_n 2, 0, 0, 0)] [] (q := 19) (L' := [some (.ref a0), some (.int b1), some (.int x8), none, none, none, none]) (st' := []) (v1 := v) (by decide +kernel) rfl trivial ?_
  refine sim_seg [(.iload_n 2, 0, 0, 0), (.iconst (-1), 0, 0, (-1))] [] (q := 21) (L' := [some (.ref a0), some (.int b1), some (.int x8), none, none, none, none]) (st' := [.int (J (-1)), .int x8]) (v1 := v) (by decide +kernel) rfl trivial ?_
  refine sim_ne (o := 5) (tg := 26) (f := 24) (by decide +kernel) rfl rfl (fun _ => ?_) (fun _ => ?_)
  · refine sim_seg [(.iconst (-1), 0, 0, (-1))] [] (q := 25) (L' := [some (.ref a0), some (.int b1), some (.int x8), none, none, none, none]) (st' := [.int (J (-1))]) (v1 := v) (by decide +kernel) rfl trivial ?_
    exact sim_iret (by decide +kernel) rfl rfl rfl
  · refine sim_bind fun r9 h10 => ?_
    refine sim_seg [(.aload_n 0, 0, 0, 0), (.aload_n 0, 0, 0, 0), (.getfield 30, 5, 6, 0)] [r9] (q := 31) (L' := [some (.ref a0), some (.int b1), some (.int x8), none, none, none, none]) (st' := [.ref r9, .ref a0]) (v1 := v) (by decide +kernel) rfl ⟨⟨h1, h10⟩, trivial⟩ ?_
    refine sc_gq (pc3 := 34) (cf_V (idx := 196) (ci := 5) [.ref r9] m_gc_fresh (by decide) ⟨by decide, by decide⟩ (List.mem_of_getElem? (i := 645) (by decide +kernel)) rfl (Nat.le_of_ble_eq_true rfl) h1 (by decide +kernel) (Nat.le_of_ble_eq_true rfl) rfl) (ok_gc_fresh N a0 r9 S v) rfl (fun q11 S12 w13 h14 => ?_)
    refine sim_oc2 (fun _ => sim_none) (fun r15 _ => ?_)
    refine sim_grd fun h16 => ?_
    refine sim_bind fun r17 h18 => ?_
    refine sim_seg [(.getfield 87, 4, 6, 0), (.astore_n 3, 0, 0, 0)] [r17] (q := 38) (L' := [some (.ref a0), some (.int b1), some (.int x8), some (.ref r17), none, none, none]) (st' := []) (v1 := w13) (by decide +kernel) rfl ⟨⟨h16, h18⟩, trivial⟩ ?_
    refine sim_seg [(.aload_n 3, 0, 0, 0), (.iload_n 2, 0, 0, 0)] [] (q := 40) (L' := [some (.ref a0), some (.int b1), some (.int x8), some (.ref r17), none, none, none]) (st' := [.int x8, .ref r17]) (v1 := w13) (by decide +kernel) rfl trivial ?_
    refine sim_grd fun h19 => ?_
    refine sc_pv (pc3 := 43) (cf_V (idx := 203) (ci := 0) [.int x8] m_ck_passTo (by decide) ⟨by decide, by decide⟩ (List.mem_of_getElem? (i := 1351) (by decide +kernel)) rfl (Nat.le_of_ble_eq_true rfl) h19 (by decide +kernel) (Nat.le_of_ble_eq_true rfl) rfl) (ok_ck_passTo N r17 x8 S12 w13) rfl (fun w20 => ?_)
    refine sim_seg [(.aload_n 3, 0, 0, 0), (.getfield 91, 0, 5, 0), (.istore 4, 0, 0, 0)] [] (q := 49) (L' := [some (.ref a0), some (.int b1), some (.int x8), some (.ref r17), some (.int (gi w20 r17 5)), none, none]) (st' := []) (v1 := w20) (by decide +kernel) rfl ⟨h19, trivial⟩ ?_
    refine sim_seg [(.iconst 1, 0, 0, 1), (.istore 5, 0, 0, 0)] [] (q := 52) (L' := [some (.ref a0), some (.int b1), some (.int x8), some (.ref r17), some (.int (gi w20 r17 5)), some (.int (J 1)), none]) (st' := []) (v1 := w20) (by decide +kernel) rfl trivial ?_
    exact sim_wk (L0 := [some (.ref a0), some (.int b1), none, some (.ref r17), some (.int (gi w20 r17 5)), some (.int (J 1)), none]) ⟨rfl, rfl, rfl, rfl, rfl, trivial⟩ (sK_gc_periodsFor_52 N S v N S12 w20 a0 b1 r17 (gi w20 r17 5) (J 1))
def B_gc_gateNear : bd := (⟨"GateCounter", "gateNear", "(I)I"⟩, prog_1_method_37_code, 6, (some .int), [], 5, 8)
theorem m_gc_gateNear : mV B_gc_gateNear 5 1 := ⟨⟨⟨by decide +kernel, Or.inl rfl⟩, rfl, (List.mem_of_getElem? (i := 1450) (by decide +kernel)), by decide +kernel, (List.mem_of_getElem? (i := 95) (by decide +kernel)), ⟨by decide, by decide⟩, by decide⟩, rfl, (by unfold nar; decide +kernel), (List.mem_of_getElem? (i := 1448) (by decide +kernel)), rfl, (List.mem_of_getElem? (i := 1449) (by decide +kernel))⟩
noncomputable def Y_gc_gateNear_60 (N : Nat)  (i60 : shp → vl → Nat → Int32 → Int32 → Int32 → Int32 → Option (Nat ⊕ (Int32 × shp × vl)))  (S : shp) (v : vl) (p0 : Nat) (p1 : Int32) (p2 : Int32) (p3 : Int32) (p4 : Int32) : Option (Nat ⊕ (Int32 × shp × vl)) :=
  (if (J 9999) < p4 then some (.inr ((J (-1)), S, v)) else grd (kin S p0 = some (0, 5)) <| (gr S p0 6).bind fun r35 => grd (kin S r35 = some (0, 4)) <| (F_st_toClockEdge N r35 S v).bind fun (x38, w39) => (if x38 = (J 0) then some (.inr ((J (-1)), S, w39)) else (gr S r35 7).bind fun r40 => grd (kin S r40 = some (0, 3)) <| (F_st_valueOf r35 ((gi w39 r40 3) - p3) p4 (gi w39 r35 3) S w39).bind fun x43 => (F_ma_abs (x43 - p2) S w39).bind fun x44 => (if p1 < x44 then i60 S w39 p0 p1 p2 p3 (p4 + (J 1)) else some (.inr (p4, S, w39)))))
noncomputable def K_gc_gateNear_60 (N : Nat)  (n : Nat)  : shp → vl → Nat → Int32 → Int32 → Int32 → Int32 → Option (Nat ⊕ (Int32 × shp × vl)) :=
  Nat.rec (motive := fun _ => shp → vl → Nat → Int32 → Int32 → Int32 → Int32 → Option (Nat ⊕ (Int32 × shp × vl))) (fun _ _ _ _ _ _ _ => none) (fun _ i => Y_gc_gateNear_60 N  i ) n
theorem sY_gc_gateNear_60 (N : Nat) (S0 : shp) (v0 : vl)  (i60 : shp → vl → Nat → Int32 → Int32 → Int32 → Int32 → Option (Nat ⊕ (Int32 × shp × vl)))   (j60 : ∀ (S : shp) (v : vl) (p0 : Nat) (p1 : Int32) (p2 : Int32) (p3 : Int32) (p4 : Int32), SimK B_gc_gateNear 60 [some (.ref p0), some (.int p1), some (.int p2), some (.int p3), some (.int p4), none] [] S v (i60 S v p0 p1 p2 p3 p4) (ρzi S0 v0)) (S : shp) (v : vl) (p0 : Nat) (p1 : Int32) (p2 : Int32) (p3 : Int32) (p4 : Int32) : SimK B_gc_gateNear 60 [some (.ref p0), some (.int p1), some (.int p2), some (.int p3), some (.int p4), none] [] S v (Y_gc_gateNear_60 N  i60  S v p0 p1 p2 p3 p4) (ρzi S0 v0) := by
  unfold Y_gc_gateNear_60
  refine sim_seg [(.iload 4, 0, 0, 0), (.sipush 9999, 0, 0, 9999)] [] (q := 65) (L' := [some (.ref p0), some (.int p1), some (.int p2), some (.int p3), some (.int p4), none]) (st' := [.int (J 9999), .int p4]) (v1 := v) (by decide +kernel) rfl trivial ?_
  refine sim_gt (o := 63) (tg := 128) (f := 68) (by decide +kernel) rfl rfl (fun _ => ?_) (fun _ => ?_)
  · refine sim_seg [(.iconst (-1), 0, 0, (-1))] [] (q := 129) (L' := [some (.ref p0), some (.int p1), some (.int p2), some (.int p3), some (.int p4), none]) (st' := [.int (J (-1))]) (v1 := v) (by decide +kernel) rfl trivial ?_
    exact sim_iret (by decide +kernel) rfl rfl rfl
  · refine sim_grd fun h34 => ?_
    refine sim_bind fun r35 h36 => ?_
    refine sim_seg [(.aload_n 0, 0, 0, 0), (.getfield 30, 5, 6, 0)] [r35] (q := 72) (L' := [some (.ref p0), some (.int p1), some (.int p2), some (.int p3), some (.int p4), none]) (st' := [.ref r35]) (v1 := v) (by decide +kernel) rfl ⟨⟨h34, h36⟩, trivial⟩ ?_
    refine sim_grd fun h37 => ?_
    refine sc_pi (pc3 := 75) (cf_V (idx := 252) (ci := 4) [] m_st_toClockEdge (by decide) ⟨by decide, by decide⟩ (List.mem_of_getElem? (i := 806) (by decide +kernel)) rfl (Nat.le_of_ble_eq_true rfl) h37 (by decide +kernel) (Nat.le_of_ble_eq_true rfl) rfl) (ok_st_toClockEdge N r35 S v) rfl (fun x38 w39 => ?_)
    refine sim_eq0 (o := 53) (tg := 128) (f := 78) (by decide +kernel) rfl rfl (fun _ => ?_) (fun _ => ?_)
    · refine sim_seg [(.iconst (-1), 0, 0, (-1))] [] (q := 129) (L' := [some (.ref p0), some (.int p1), some (.int p2), some (.int p3), some (.int p4), none]) (st' := [.int (J (-1))]) (v1 := w39) (by decide +kernel) rfl trivial ?_
      exact sim_iret (by decide +kernel) rfl rfl rfl
    · refine sim_bind fun r40 h41 => ?_
      refine sim_grd fun h42 => ?_
      refine sim_seg [(.aload_n 0, 0, 0, 0), (.getfield 30, 5, 6, 0), (.aload_n 0, 0, 0, 0), (.getfield 30, 5, 6, 0), (.getfield 69, 4, 7, 0), (.getfield 97, 3, 3, 0), (.iload_n 3, 0, 0, 0), (.isub, 0, 0, 0), (.iload 4, 0, 0, 0), (.aload_n 0, 0, 0, 0), (.getfield 30, 5, 6, 0), (.getfield 130, 4, 3, 0)] [r35, r35, r40, r35] (q := 103) (L' := [some (.ref p0), some (.int p1), some (.int p2), some (.int p3), some (.int p4), none]) (st' := [.int (gi w39 r35 3), .int p4, .int ((gi w39 r40 3) - p3), .ref r35]) (v1 := w39) (by decide +kernel) rfl ⟨⟨h34, h36⟩, ⟨h34, h36⟩, ⟨h37, h41⟩, h42, ⟨h34, h36⟩, h37, trivial⟩ ?_
      refine sc_ri (pc3 := 106) (cf_V (idx := 258) (ci := 4) [.int ((gi w39 r40 3) - p3), .int p4, .int (gi w39 r35 3)] m_st_valueOf (by decide) ⟨by decide, by decide⟩ (List.mem_of_getElem? (i := 1451) (by decide +kernel)) rfl (Nat.le_of_ble_eq_true rfl) h37 (by decide +kernel) (Nat.le_of_ble_eq_true rfl) rfl) (ok_st_valueOf r35 ((gi w39 r40 3) - p3) p4 (gi w39 r35 3) S w39) rfl (fun x43 => ?_)
      refine sim_seg [(.istore 5, 0, 0, 0)] [] (q := 108) (L' := [some (.ref p0), some (.int p1), some (.int p2), some (.int p3), some (.int p4), some (.int x43)]) (st' := []) (v1 := w39) (by decide +kernel) rfl trivial ?_
      refine sim_seg [(.iload 5, 0, 0, 0), (.iload_n 2, 0, 0, 0), (.isub, 0, 0, 0)] [] (q := 112) (L' := [some (.ref p0), some (.int p1), some (.int p2), some (.int p3), some (.int p4), some (.int x43)]) (st' := [.int (x43 - p2)]) (v1 := w39) (by decide +kernel) rfl trivial ?_
      refine sc_ri (pc3 := 115) (cf_S (idx := 249) [.int (x43 - p2)] m_ma_abs ⟨by decide, by decide⟩ (List.mem_of_getElem? (i := 799) (by decide +kernel)) rfl (Nat.le_of_ble_eq_true rfl) (by decide +kernel) (Nat.le_of_ble_eq_true rfl) rfl) (ok_ma_abs (x43 - p2) S w39) rfl (fun x44 => ?_)
      refine sim_seg [(.iload_n 1, 0, 0, 0)] [] (q := 116) (L' := [some (.ref p0), some (.int p1), some (.int p2), some (.int p3), some (.int p4), some (.int x43)]) (st' := [.int p1, .int x44]) (v1 := w39) (by decide +kernel) rfl trivial ?_
      refine sim_gt (o := 6) (tg := 122) (f := 119) (by decide +kernel) rfl rfl (fun _ => ?_) (fun _ => ?_)
      · refine sim_seg [(.iinc 4 1, 0, 0, 1)] [] (q := 125) (L' := [some (.ref p0), some (.int p1), some (.int p2), some (.int p3), some (.int (p4 + (J 1))), some (.int x43)]) (st' := []) (v1 := w39) (by decide +kernel) rfl trivial ?_
        refine sim_seg [(.goto (-65), 0, 0, 0)] [] (q := 60) (L' := [some (.ref p0), some (.int p1), some (.int p2), some (.int p3), some (.int (p4 + (J 1))), some (.int x43)]) (st' := []) (v1 := w39) (by decide +kernel) rfl trivial ?_
        exact sim_wk (L0 := [some (.ref p0), some (.int p1), some (.int p2), some (.int p3), some (.int (p4 + (J 1))), none]) ⟨rfl, rfl, rfl, rfl, rfl, trivial⟩ (j60 S w39 p0 p1 p2 p3 (p4 + (J 1)))
      · refine sim_seg [(.iload 4, 0, 0, 0)] [] (q := 121) (L' := [some (.ref p0), some (.int p1), some (.int p2), some (.int p3), some (.int p4), some (.int x43)]) (st' := [.int p4]) (v1 := w39) (by decide +kernel) rfl trivial ?_
        exact sim_iret (by decide +kernel) rfl rfl rfl
theorem sR_gc_gateNear_60 (N : Nat) (S0 : shp) (v0 : vl)    (n : Nat) : ∀ (S : shp) (v : vl) (p0 : Nat) (p1 : Int32) (p2 : Int32) (p3 : Int32) (p4 : Int32), SimK B_gc_gateNear 60 [some (.ref p0), some (.int p1), some (.int p2), some (.int p3), some (.int p4), none] [] S v (K_gc_gateNear_60 N  n  S v p0 p1 p2 p3 p4) (ρzi S0 v0) := by
  induction n with
  | zero => intro S v p0 p1 p2 p3 p4; exact sim_none
  | succ k ih => intro S v p0 p1 p2 p3 p4; exact sY_gc_gateNear_60 N S0 v0  _   ih S v p0 p1 p2 p3 p4
theorem sK_gc_gateNear_60 (N : Nat) (S0 : shp) (v0 : vl)   (n : Nat) (S : shp) (v : vl) (p0 : Nat) (p1 : Int32) (p2 : Int32) (p3 : Int32) (p4 : Int32) : SimK B_gc_gateNear 60 [some (.ref p0), some (.int p1), some (.int p2), some (.int p3), some (.int p4), none] [] S v (K_gc_gateNear_60 N  n  S v p0 p1 p2 p3 p4) (ρzi S0 v0) := sR_gc_gateNear_60 N S0 v0   n  S v p0 p1 p2 p3 p4
noncomputable def F_gc_gateNear (N : Nat) (a0 : Nat) (b1 : Int32) (S : shp) (v : vl) : Option (Nat ⊕ (Int32 × shp × vl)) :=
  bx (F_gc_requireWithin b1 (J 0) (J 2000000) S v) (fun k0 => some (.inl k0)) fun _ => grd (kin S a0 = some (0, 5)) <| (gr S a0 7).bind fun r2 => (F_gc_fresh N a0 r2 S v).bind fun (q4, S5, w6) => oc2 q4 none fun r8 => grd (kin S5 r8 = some (0, 4)) <| (F_st_measureByPeriod N r8 S5 w6).bind fun (x10, S11, w12) => (if x10 = (J 0) then (gr S11 a0 6).bind fun r14 => (F_gc_fresh N a0 r14 S11 w12).bind fun (q16, S17, w18) => oc2 q16 none fun r20 => grd (kin S17 r20 = some (0, 4)) <| (F_st_toClockEdge N r20 S17 w18).bind fun (x22, w23) => (if x22 = (J 0) then some (.inr ((J (-1)), S17, w23)) else (gr S17 a0 7).bind fun r24 => grd (kin S17 r24 = some (0, 4)) <| (F_st_latestNumber N r24 (J 4) S17 w23).bind fun x27 => (gr S17 a0 6).bind fun r28 => grd (kin S17 r28 = some (0, 4)) <| (gr S17 r28 7).bind fun r31 => grd (kin S17 r31 = some (0, 3)) <| K_gc_gateNear_60 N  N S17 w23 a0 b1 x27 (gi w23 r31 3) (J 1)) else some (.inr ((J (-1)), S11, w12)))
theorem ok_gc_gateNear (N : Nat) (a0 : Nat) (b1 : Int32) (S : shp) (v : vl) : SimK B_gc_gateNear 0 (entB (bN B_gc_gateNear) [.ref a0, .int b1]) [] S v (F_gc_gateNear N a0 b1 S v) (ρzi S v) := by
  show SimK B_gc_gateNear 0 [some (.ref a0), some (.int b1), none, none, none, none] [] S v (F_gc_gateNear N a0 b1 S v) _
  unfold F_gc_gateNear
  refine sim_seg [(.iload_n 1, 0, 0, 0), (.iconst 0, 0, 0, 0), (.ldc 216, 0, 0, 2000000)] [] (q := 4) (L' := [some (.ref a0), some (.int b1), none, none, none, none]) (st' := [.int (J 2000000), .int (J 0), .int b1]) (v1 := v) (by decide +kernel) rfl trivial ?_
  refine sc_xv (pc3 := 7) (cf_S (idx := 170) [.int b1, .int (J 0), .int (J 2000000)] m_gc_requireWithin ⟨by decide, by decide⟩ (List.mem_of_getElem? (i := 1321) (by decide +kernel)) rfl (Nat.le_of_ble_eq_true rfl) (by decide +kernel) (Nat.le_of_ble_eq_true rfl) rfl) (ok_gc_requireWithin b1 (J 0) (J 2000000) S v) rfl rfl (fun k0 b hb => by cases hb; rfl) (fun _ => ?_)
  refine sim_grd fun h1 => ?_
  refine sim_bind fun r2 h3 => ?_
  refine sim_seg [(.aload_n 0, 0, 0, 0), (.aload_n 0, 0, 0, 0), (.getfield 33, 5, 7, 0)] [r2] (q := 12) (L' := [some (.ref a0), some (.int b1), none, none, none, none]) (st' := [.ref r2, .ref a0]) (v1 := v) (by decide +kernel) rfl ⟨⟨h1, h3⟩, trivial⟩ ?_
  refine sc_gq (pc3 := 15) (cf_V (idx := 196) (ci := 5) [.ref r2] m_gc_fresh (by decide) ⟨by decide, by decide⟩ (List.mem_of_getElem? (i := 645) (by decide +kernel)) rfl (Nat.le_of_ble_eq_true rfl) h1 (by decide +kernel) (Nat.le_of_ble_eq_true rfl) rfl) (ok_gc_fresh N a0 r2 S v) rfl (fun q4 S5 w6 h7 => ?_)
  refine sim_oc2 (fun _ => sim_none) (fun r8 _ => ?_)
  refine sim_grd fun h9 => ?_
  refine sc_gi (pc3 := 18) (cf_V (idx := 238) (ci := 4) [] m_st_measureByPeriod (by decide) ⟨by decide, by decide⟩ (List.mem_of_getElem? (i := 653) (by decide +kernel)) rfl (Nat.le_of_ble_eq_true rfl) h9 (by decide +kernel) (Nat.le_of_ble_eq_true rfl) rfl) (ok_st_measureByPeriod N r8 S5 w6) rfl (fun x10 S11 w12 h13 => ?_)
  refine sim_ne0 (o := 17) (tg := 35) (f := 21) (by decide +kernel) rfl rfl (fun _ => ?_) (fun _ => ?_)
  · refine sim_bind fun r14 h15 => ?_
    refine sim_seg [(.aload_n 0, 0, 0, 0), (.aload_n 0, 0, 0, 0), (.getfield 30, 5, 6, 0)] [r14] (q := 26) (L' := [some (.ref a0), some (.int b1), none, none, none, none]) (st' := [.ref r14, .ref a0]) (v1 := w12) (by decide +kernel) rfl ⟨⟨(h13.2.2.2.2 _ _ (h7.2.2.2.2 _ _ h1)), h15⟩, trivial⟩ ?_
    refine sc_gq (pc3 := 29) (cf_V (idx := 196) (ci := 5) [.ref r14] m_gc_fresh (by decide) ⟨by decide, by decide⟩ (List.mem_of_getElem? (i := 645) (by decide +kernel)) rfl (Nat.le_of_ble_eq_true rfl) (h13.2.2.2.2 _ _ (h7.2.2.2.2 _ _ h1)) (by decide +kernel) (Nat.le_of_ble_eq_true rfl) rfl) (ok_gc_fresh N a0 r14 S11 w12) rfl (fun q16 S17 w18 h19 => ?_)
    refine sim_oc2 (fun _ => sim_none) (fun r20 _ => ?_)
    refine sim_grd fun h21 => ?_
    refine sc_pi (pc3 := 32) (cf_V (idx := 252) (ci := 4) [] m_st_toClockEdge (by decide) ⟨by decide, by decide⟩ (List.mem_of_getElem? (i := 806) (by decide +kernel)) rfl (Nat.le_of_ble_eq_true rfl) h21 (by decide +kernel) (Nat.le_of_ble_eq_true rfl) rfl) (ok_st_toClockEdge N r20 S17 w18) rfl (fun x22 w23 => ?_)
    refine sim_ne0 (o := 5) (tg := 37) (f := 35) (by decide +kernel) rfl rfl (fun _ => ?_) (fun _ => ?_)
    · refine sim_seg [(.iconst (-1), 0, 0, (-1))] [] (q := 36) (L' := [some (.ref a0), some (.int b1), none, none, none, none]) (st' := [.int (J (-1))]) (v1 := w23) (by decide +kernel) rfl trivial ?_
      exact sim_iret (by decide +kernel) rfl rfl rfl
    · refine sim_bind fun r24 h25 => ?_
      refine sim_seg [(.aload_n 0, 0, 0, 0), (.getfield 33, 5, 7, 0), (.iconst 4, 0, 0, 4)] [r24] (q := 42) (L' := [some (.ref a0), some (.int b1), none, none, none, none]) (st' := [.int (J 4), .ref r24]) (v1 := w23) (by decide +kernel) rfl ⟨⟨(h19.2.2.2.2 _ _ (h13.2.2.2.2 _ _ (h7.2.2.2.2 _ _ h1))), h25⟩, trivial⟩ ?_
      refine sim_grd fun h26 => ?_
      refine sc_ri (pc3 := 45) (cf_V (idx := 235) (ci := 4) [.int (J 4)] m_st_latestNumber (by decide) ⟨by decide, by decide⟩ (List.mem_of_getElem? (i := 779) (by decide +kernel)) rfl (Nat.le_of_ble_eq_true rfl) h26 (by decide +kernel) (Nat.le_of_ble_eq_true rfl) rfl) (ok_st_latestNumber N r24 (J 4) S17 w23) rfl (fun x27 => ?_)
      refine sim_seg [(.istore_n 2, 0, 0, 0)] [] (q := 46) (L' := [some (.ref a0), some (.int b1), some (.int x27), none, none, none]) (st' := []) (v1 := w23) (by decide +kernel) rfl trivial ?_
      refine sim_bind fun r28 h29 => ?_
      refine sim_grd fun h30 => ?_
      refine sim_bind fun r31 h32 => ?_
      refine sim_grd fun h33 => ?_
      refine sim_seg [(.aload_n 0, 0, 0, 0), (.getfield 30, 5, 6, 0), (.getfield 69, 4, 7, 0), (.getfield 97, 3, 3, 0), (.istore_n 3, 0, 0, 0)] [r28, r31] (q := 57) (L' := [some (.ref a0), some (.int b1), some (.int x27), some (.int (gi w23 r31 3)), none, none]) (st' := []) (v1 := w23) (by decide +kernel) rfl ⟨⟨(h19.2.2.2.2 _ _ (h13.2.2.2.2 _ _ (h7.2.2.2.2 _ _ h1))), h29⟩, ⟨h30, h32⟩, h33, trivial⟩ ?_
      refine sim_seg [(.iconst 1, 0, 0, 1), (.istore 4, 0, 0, 0)] [] (q := 60) (L' := [some (.ref a0), some (.int b1), some (.int x27), some (.int (gi w23 r31 3)), some (.int (J 1)), none]) (st' := []) (v1 := w23) (by decide +kernel) rfl trivial ?_
      exact sK_gc_gateNear_60 N S v N S17 w23 a0 b1 x27 (gi w23 r31 3) (J 1)
  · refine sim_seg [(.iconst (-1), 0, 0, (-1))] [] (q := 36) (L' := [some (.ref a0), some (.int b1), none, none, none, none]) (st' := [.int (J (-1))]) (v1 := w12) (by decide +kernel) rfl trivial ?_
    exact sim_iret (by decide +kernel) rfl rfl rfl
