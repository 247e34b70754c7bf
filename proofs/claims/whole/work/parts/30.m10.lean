/-! Methods: gm_segmentTime, gm_greatestTime, gm_puts, gm_readSignal, gm_readStatement, gm_readText, gm_loadCounter, gm_errorCode, gm_errorOffset, gm_count, gm_fails, gm_setting, gm_state, gm_segment, gm_noMeasurement, gm_at, gm_of, gm_measurement, gm_reason, gm_cause, gm_chosenBy, gm_addsUp, gm_back, gm_ages, gm_clockComes, gm_edgeComes. -/
def B_gm_segmentTime : bd := (⟨"GateCounterModel", "segmentTime", "(I)I"⟩, prog_8_method_12_code, 2, (some .int), [], 6, 0)
theorem m_gm_segmentTime : mV B_gm_segmentTime 6 1 := ⟨⟨⟨by decide +kernel, Or.inl rfl⟩, rfl, (List.mem_of_getElem? (i := 1806) (by decide +kernel)), by decide +kernel, (List.mem_of_getElem? (i := 104) (by decide +kernel)), ⟨by decide, by decide⟩, by decide⟩, rfl, (by unfold nar; decide +kernel), (List.mem_of_getElem? (i := 1805) (by decide +kernel)), rfl, (List.mem_of_getElem? (i := 51) (by decide +kernel))⟩
noncomputable def F_gm_segmentTime (a0 : Nat) (b1 : Int32) (S : shp) (v : vl) : Option Int32 :=
  grd (kin S a0 = some (0, 6)) <| (gr S a0 0).bind fun r2 => grd (kin S r2 = some (1, 199)) <| grd (vp_in ((J 23) + ((J 2) * b1)) (alen S r2)) <| some ((gi v r2 (Int32.toNatClampNeg ((J 23) + ((J 2) * b1)))))
theorem ok_gm_segmentTime (a0 : Nat) (b1 : Int32) (S : shp) (v : vl) : SimK B_gm_segmentTime 0 (entB (bN B_gm_segmentTime) [.ref a0, .int b1]) [] S v (F_gm_segmentTime a0 b1 S v) (ρri S v) := by
  show SimK B_gm_segmentTime 0 [some (.ref a0), some (.int b1)] [] S v (F_gm_segmentTime a0 b1 S v) _
  unfold F_gm_segmentTime
  refine sim_grd fun h1 => ?_
  refine sim_bind fun r2 h3 => ?_
  refine sim_grd fun h4 => ?_
  refine sim_grd fun h5 => ?_
  refine sim_seg [(.aload_n 0, 0, 0, 0), (.getfield 7, 6, 0, 0), (.bipush 23, 0, 0, 23), (.iconst 2, 0, 0, 2), (.iload_n 1, 0, 0, 0), (.imul, 0, 0, 0), (.iadd, 0, 0, 0), (.iaload, 0, 0, 0)] [r2] (q := 11) (L' := [some (.ref a0), some (.int b1)]) (st' := [.int (gi v r2 (Int32.toNatClampNeg ((J 23) + ((J 2) * b1))))]) (v1 := v) (by decide +kernel) rfl ⟨⟨h1, h3⟩, ⟨(Or.inl (kin_alen h4)), h5⟩, trivial⟩ ?_
  exact sim_iret (by decide +kernel) rfl rfl rfl
def B_gm_greatestTime : bd := (⟨"GateCounterModel", "greatestTime", "()I"⟩, prog_8_method_53_code, 1, (some .int), [], 6, 1)
theorem m_gm_greatestTime : mV B_gm_greatestTime 6 0 := ⟨⟨⟨by decide +kernel, Or.inl rfl⟩, rfl, (List.mem_of_getElem? (i := 1802) (by decide +kernel)), by decide +kernel, (List.mem_of_getElem? (i := 104) (by decide +kernel)), ⟨by decide, by decide⟩, by decide⟩, rfl, (by unfold nar; decide +kernel), (List.mem_of_getElem? (i := 1801) (by decide +kernel)), rfl, (List.mem_of_getElem? (i := 50) (by decide +kernel))⟩
noncomputable def F_gm_greatestTime (a0 : Nat) (S : shp) (v : vl) : Option Int32 :=
  grd (kin S a0 = some (0, 6)) <| (gr S a0 0).bind fun r2 => grd (kin S r2 = some (1, 199)) <| (if (gi v r2 19) = (J 0) then some ((J (-1))) else (F_gm_segmentTime a0 ((gi v r2 19) - (J 1)) S v).bind fun x5 => some (x5))
theorem ok_gm_greatestTime (a0 : Nat) (S : shp) (v : vl) : SimK B_gm_greatestTime 0 (entB (bN B_gm_greatestTime) [.ref a0]) [] S v (F_gm_greatestTime a0 S v) (ρri S v) := by
  show SimK B_gm_greatestTime 0 [some (.ref a0)] [] S v (F_gm_greatestTime a0 S v) _
  unfold F_gm_greatestTime
  refine sim_grd fun h1 => ?_
  refine sim_bind fun r2 h3 => ?_
  refine sim_grd fun h4 => ?_
  refine sim_seg [(.aload_n 0, 0, 0, 0), (.getfield 7, 6, 0, 0), (.bipush 19, 0, 0, 19), (.iaload, 0, 0, 0)] [r2] (q := 7) (L' := [some (.ref a0)]) (st' := [.int (gi v r2 19)]) (v1 := v) (by decide +kernel) rfl ⟨⟨h1, h3⟩, ⟨(Or.inl (kin_alen h4)), (vin_J h4 (by unfold vp_in; decide))⟩, trivial⟩ ?_
  refine sim_ne0 (o := 7) (tg := 14) (f := 10) (by decide +kernel) rfl rfl (fun _ => ?_) (fun _ => ?_)
  · refine sim_seg [(.iconst (-1), 0, 0, (-1)), (.goto 16, 0, 0, 0)] [] (q := 27) (L' := [some (.ref a0)]) (st' := [.int (J (-1))]) (v1 := v) (by decide +kernel) rfl trivial ?_
    exact sim_iret (by decide +kernel) rfl rfl rfl
  · refine sim_seg [(.aload_n 0, 0, 0, 0), (.aload_n 0, 0, 0, 0), (.getfield 7, 6, 0, 0), (.bipush 19, 0, 0, 19), (.iaload, 0, 0, 0), (.iconst 1, 0, 0, 1), (.isub, 0, 0, 0)] [r2] (q := 24) (L' := [some (.ref a0)]) (st' := [.int ((gi v r2 19) - (J 1)), .ref a0]) (v1 := v) (by decide +kernel) rfl ⟨⟨h1, h3⟩, ⟨(Or.inl (kin_alen h4)), (vin_J h4 (by unfold vp_in; decide))⟩, trivial⟩ ?_
    refine sc_ri (pc3 := 27) (cf_V (idx := 56) (ci := 6) [.int ((gi v r2 19) - (J 1))] m_gm_segmentTime (by decide) ⟨by decide, by decide⟩ (List.mem_of_getElem? (i := 1803) (by decide +kernel)) rfl (Nat.le_of_ble_eq_true rfl) h1 (by decide +kernel) (Nat.le_of_ble_eq_true rfl) rfl) (ok_gm_segmentTime a0 ((gi v r2 19) - (J 1)) S v) rfl (fun x5 => ?_)
    exact sim_iret (by decide +kernel) rfl rfl rfl
def B_gm_puts : bd := (⟨"GateCounterModel", "puts", "(II)V"⟩, prog_8_method_52_code, 3, none, [], 6, 0)
theorem m_gm_puts : mV B_gm_puts 6 2 := ⟨⟨⟨by decide +kernel, Or.inl rfl⟩, rfl, (List.mem_of_getElem? (i := 1810) (by decide +kernel)), by decide +kernel, (List.mem_of_getElem? (i := 104) (by decide +kernel)), ⟨by decide, by decide⟩, by decide⟩, rfl, (by unfold nar; decide +kernel), (List.mem_of_getElem? (i := 1809) (by decide +kernel)), rfl, (List.mem_of_getElem? (i := 52) (by decide +kernel))⟩
noncomputable def F_gm_puts (a0 : Nat) (b1 : Int32) (b2 : Int32) (S : shp) (v : vl) : Option vl :=
  grd (kin S a0 = some (0, 6)) <| (gr S a0 0).bind fun r2 => grd (kin S r2 = some (1, 199)) <| grd (vp_in ((J 23) + ((J 2) * (gi v r2 19))) (alen S r2)) <| lt (si v r2 (Int32.toNatClampNeg ((J 23) + ((J 2) * (gi v r2 19)))) b1) fun w6 => grd (vp_in (((J 23) + ((J 2) * (gi w6 r2 19))) + (J 1)) (alen S r2)) <| lt (si w6 r2 (Int32.toNatClampNeg (((J 23) + ((J 2) * (gi w6 r2 19))) + (J 1))) b2) fun w8 => lt (si w8 r2 19 ((gi w8 r2 19) + (J 1))) fun w9 => some (w9)
theorem ok_gm_puts (a0 : Nat) (b1 : Int32) (b2 : Int32) (S : shp) (v : vl) : SimK B_gm_puts 0 (entB (bN B_gm_puts) [.ref a0, .int b1, .int b2]) [] S v (F_gm_puts a0 b1 b2 S v) (ρpv S) := by
  show SimK B_gm_puts 0 [some (.ref a0), some (.int b1), some (.int b2)] [] S v (F_gm_puts a0 b1 b2 S v) _
  unfold F_gm_puts
  refine sim_grd fun h1 => ?_
  refine sim_bind fun r2 h3 => ?_
  refine sim_grd fun h4 => ?_
  refine sim_grd fun h5 => ?_
  refine sim_seg [(.aload_n 0, 0, 0, 0), (.getfield 7, 6, 0, 0), (.bipush 23, 0, 0, 23), (.iconst 2, 0, 0, 2), (.aload_n 0, 0, 0, 0), (.getfield 7, 6, 0, 0), (.bipush 19, 0, 0, 19), (.iaload, 0, 0, 0), (.imul, 0, 0, 0), (.iadd, 0, 0, 0), (.iload_n 1, 0, 0, 0), (.iastore, 0, 0, 0)] [r2, r2] (q := 18) (L' := [some (.ref a0), some (.int b1), some (.int b2)]) (st' := []) (v1 := (si v r2 (Int32.toNatClampNeg ((J 23) + ((J 2) * (gi v r2 19)))) b1)) (by decide +kernel) rfl ⟨⟨h1, h3⟩, ⟨h1, h3⟩, ⟨(Or.inl (kin_alen h4)), (vin_J h4 (by unfold vp_in; decide))⟩, ⟨(kin_alen h4), h5⟩, trivial⟩ ?_
  refine sim_lt (x := (si v r2 (Int32.toNatClampNeg ((J 23) + ((J 2) * (gi v r2 19)))) b1)) ?_
  generalize (si v r2 (Int32.toNatClampNeg ((J 23) + ((J 2) * (gi v r2 19)))) b1) = w6
  refine sim_seg [(.aload_n 0, 0, 0, 0), (.getfield 7, 6, 0, 0), (.bipush 23, 0, 0, 23), (.iconst 2, 0, 0, 2), (.aload_n 0, 0, 0, 0), (.getfield 7, 6, 0, 0), (.bipush 19, 0, 0, 19), (.iaload, 0, 0, 0), (.imul, 0, 0, 0), (.iadd, 0, 0, 0), (.iconst 1, 0, 0, 1), (.iadd, 0, 0, 0)] [r2, r2] (q := 36) (L' := [some (.ref a0), some (.int b1), some (.int b2)]) (st' := [.int (((J 23) + ((J 2) * (gi w6 r2 19))) + (J 1)), .ref r2]) (v1 := w6) (by decide +kernel) rfl ⟨⟨h1, h3⟩, ⟨h1, h3⟩, ⟨(Or.inl (kin_alen h4)), (vin_J h4 (by unfold vp_in; decide))⟩, trivial⟩ ?_
  refine sim_grd fun h7 => ?_
  refine sim_seg [(.iload_n 2, 0, 0, 0), (.iastore, 0, 0, 0), (.aload_n 0, 0, 0, 0)] [] (q := 39) (L' := [some (.ref a0), some (.int b1), some (.int b2)]) (st' := [.ref a0]) (v1 := (si w6 r2 (Int32.toNatClampNeg (((J 23) + ((J 2) * (gi w6 r2 19))) + (J 1))) b2)) (by decide +kernel) rfl ⟨⟨(kin_alen h4), h7⟩, trivial⟩ ?_
  refine sim_lt (x := (si w6 r2 (Int32.toNatClampNeg (((J 23) + ((J 2) * (gi w6 r2 19))) + (J 1))) b2)) ?_
  generalize (si w6 r2 (Int32.toNatClampNeg (((J 23) + ((J 2) * (gi w6 r2 19))) + (J 1))) b2) = w8
  refine sim_seg [(.getfield 7, 6, 0, 0), (.bipush 19, 0, 0, 19), (.dup2, 0, 0, 0), (.iaload, 0, 0, 0), (.iconst 1, 0, 0, 1), (.iadd, 0, 0, 0), (.iastore, 0, 0, 0)] [r2] (q := 49) (L' := [some (.ref a0), some (.int b1), some (.int b2)]) (st' := []) (v1 := (si w8 r2 19 ((gi w8 r2 19) + (J 1)))) (by decide +kernel) rfl ⟨⟨h1, h3⟩, ⟨(Or.inl (kin_alen h4)), (vin_J h4 (by unfold vp_in; decide))⟩, ⟨(kin_alen h4), (vin_J h4 (by unfold vp_in; decide))⟩, trivial⟩ ?_
  refine sim_lt (x := (si w8 r2 19 ((gi w8 r2 19) + (J 1)))) ?_
  generalize (si w8 r2 19 ((gi w8 r2 19) + (J 1))) = w9
  exact sim_vret (by decide +kernel) rfl rfl
def B_gm_readSignal : bd := (⟨"GateCounterModel", "readSignal", "()Z"⟩, prog_8_method_54_code, 2, (some .boolean), [], 6, 3)
theorem m_gm_readSignal : mV B_gm_readSignal 6 0 := ⟨⟨⟨by decide +kernel, Or.inl rfl⟩, rfl, (List.mem_of_getElem? (i := 1797) (by decide +kernel)), by decide +kernel, (List.mem_of_getElem? (i := 104) (by decide +kernel)), ⟨by decide, by decide⟩, by decide⟩, rfl, (by unfold nar; decide +kernel), (List.mem_of_getElem? (i := 1796) (by decide +kernel)), rfl, (List.mem_of_getElem? (i := 49) (by decide +kernel))⟩
noncomputable def F_gm_readSignal (N : Nat) (a0 : Nat) (S : shp) (v : vl) : Option (Int32 × vl) :=
  grd (kin S a0 = some (0, 6)) <| (gr S a0 0).bind fun r2 => grd (kin S r2 = some (1, 199)) <| (if (gi v r2 19) = (J 8) then (F_gm_failsAt a0 (J 5) S v).bind fun (x5, w6) => grd (narrow .boolean (.int x5) = .int x5) <| some ((x5, w6)) else (F_gm_advanceToken N a0 S v).bind fun w8 => (F_gm_sees a0 (J 0) (J 999999) S w8).bind fun (x9, w10) => (if x9 = (J 0) then some (((J 0), w10)) else (F_gm_greatestTime a0 S w10).bind fun x11 => (if x11 < (gi w10 a0 26) then (F_gm_advanceToken N a0 S w10).bind fun w12 => (F_gm_reads N a0 (J 0) (J 9999) S w12).bind fun (x13, w14) => (if x13 = (J 0) then some (((J 0), w14)) else (F_gm_puts a0 (gi w10 a0 26) (gi w14 a0 26) S w14).bind fun w15 => some (((J 1), w15))) else (F_gm_failsAt a0 (J 4) S w10).bind fun (x16, w17) => grd (narrow .boolean (.int x16) = .int x16) <| some ((x16, w17)))))
theorem ok_gm_readSignal (N : Nat) (a0 : Nat) (S : shp) (v : vl) : SimK B_gm_readSignal 0 (entB (bN B_gm_readSignal) [.ref a0]) [] S v (F_gm_readSignal N a0 S v) (ρpi S) := by
  show SimK B_gm_readSignal 0 [some (.ref a0), none] [] S v (F_gm_readSignal N a0 S v) _
  unfold F_gm_readSignal
  refine sim_grd fun h1 => ?_
  refine sim_bind fun r2 h3 => ?_
  refine sim_grd fun h4 => ?_
  refine sim_seg [(.aload_n 0, 0, 0, 0), (.getfield 7, 6, 0, 0), (.bipush 19, 0, 0, 19), (.iaload, 0, 0, 0), (.bipush 8, 0, 0, 8)] [r2] (q := 9) (L' := [some (.ref a0), none]) (st' := [.int (J 8), .int (gi v r2 19)]) (v1 := v) (by decide +kernel) rfl ⟨⟨h1, h3⟩, ⟨(Or.inl (kin_alen h4)), (vin_J h4 (by unfold vp_in; decide))⟩, trivial⟩ ?_
  refine sim_ne (o := 9) (tg := 18) (f := 12) (by decide +kernel) rfl rfl (fun _ => ?_) (fun _ => ?_)
  · refine sim_seg [(.aload_n 0, 0, 0, 0), (.iconst 5, 0, 0, 5)] [] (q := 14) (L' := [some (.ref a0), none]) (st' := [.int (J 5), .ref a0]) (v1 := v) (by decide +kernel) rfl trivial ?_
    refine sc_pi (pc3 := 17) (cf_V (idx := 202) (ci := 6) [.int (J 5)] m_gm_failsAt (by decide) ⟨by decide, by decide⟩ (List.mem_of_getElem? (i := 1749) (by decide +kernel)) rfl (Nat.le_of_ble_eq_true rfl) h1 (by decide +kernel) (Nat.le_of_ble_eq_true rfl) rfl) (ok_gm_failsAt a0 (J 5) S v) rfl (fun x5 w6 => ?_)
    refine sim_grd fun h7 => ?_
    exact sim_iret (by decide +kernel) rfl h7 rfl
  · refine sim_seg [(.aload_n 0, 0, 0, 0)] [] (q := 19) (L' := [some (.ref a0), none]) (st' := [.ref a0]) (v1 := v) (by decide +kernel) rfl trivial ?_
    refine sc_pv (pc3 := 22) (cf_V (idx := 199) (ci := 6) [] m_gm_advanceToken (by decide) ⟨by decide, by decide⟩ (List.mem_of_getElem? (i := 1722) (by decide +kernel)) rfl (Nat.le_of_ble_eq_true rfl) h1 (by decide +kernel) (Nat.le_of_ble_eq_true rfl) rfl) (ok_gm_advanceToken N a0 S v) rfl (fun w8 => ?_)
    refine sim_seg [(.aload_n 0, 0, 0, 0), (.iconst 0, 0, 0, 0), (.ldc 235, 0, 0, 999999)] [] (q := 26) (L' := [some (.ref a0), none]) (st' := [.int (J 999999), .int (J 0), .ref a0]) (v1 := w8) (by decide +kernel) rfl trivial ?_
    refine sc_pi (pc3 := 29) (cf_V (idx := 208) (ci := 6) [.int (J 0), .int (J 999999)] m_gm_sees (by decide) ⟨by decide, by decide⟩ (List.mem_of_getElem? (i := 1757) (by decide +kernel)) rfl (Nat.le_of_ble_eq_true rfl) h1 (by decide +kernel) (Nat.le_of_ble_eq_true rfl) rfl) (ok_gm_sees a0 (J 0) (J 999999) S w8) rfl (fun x9 w10 => ?_)
    refine sim_ne0 (o := 5) (tg := 34) (f := 32) (by decide +kernel) rfl rfl (fun _ => ?_) (fun _ => ?_)
    · refine sim_seg [(.iconst 0, 0, 0, 0)] [] (q := 33) (L' := [some (.ref a0), none]) (st' := [.int (J 0)]) (v1 := w10) (by decide +kernel) rfl trivial ?_
      exact sim_iret (by decide +kernel) rfl (by decide) rfl
    · refine sim_seg [(.aload_n 0, 0, 0, 0), (.getfield 205, 6, 26, 0), (.aload_n 0, 0, 0, 0)] [] (q := 39) (L' := [some (.ref a0), none]) (st' := [.ref a0, .int (gi w10 a0 26)]) (v1 := w10) (by decide +kernel) rfl ⟨h1, trivial⟩ ?_
      refine sc_ri (pc3 := 42) (cf_V (idx := 236) (ci := 6) [] m_gm_greatestTime (by decide) ⟨by decide, by decide⟩ (List.mem_of_getElem? (i := 1799) (by decide +kernel)) rfl (Nat.le_of_ble_eq_true rfl) h1 (by decide +kernel) (Nat.le_of_ble_eq_true rfl) rfl) (ok_gm_greatestTime a0 S w10) rfl (fun x11 => ?_)
      refine sim_gt (o := 9) (tg := 51) (f := 45) (by decide +kernel) rfl rfl (fun _ => ?_) (fun _ => ?_)
      · refine sim_seg [(.aload_n 0, 0, 0, 0), (.getfield 205, 6, 26, 0), (.istore_n 1, 0, 0, 0)] [] (q := 56) (L' := [some (.ref a0), some (.int (gi w10 a0 26))]) (st' := []) (v1 := w10) (by decide +kernel) rfl ⟨h1, trivial⟩ ?_
        refine sim_seg [(.aload_n 0, 0, 0, 0)] [] (q := 57) (L' := [some (.ref a0), some (.int (gi w10 a0 26))]) (st' := [.ref a0]) (v1 := w10) (by decide +kernel) rfl trivial ?_
        refine sc_pv (pc3 := 60) (cf_V (idx := 199) (ci := 6) [] m_gm_advanceToken (by decide) ⟨by decide, by decide⟩ (List.mem_of_getElem? (i := 1722) (by decide +kernel)) rfl (Nat.le_of_ble_eq_true rfl) h1 (by decide +kernel) (Nat.le_of_ble_eq_true rfl) rfl) (ok_gm_advanceToken N a0 S w10) rfl (fun w12 => ?_)
        refine sim_seg [(.aload_n 0, 0, 0, 0), (.iconst 0, 0, 0, 0), (.sipush 9999, 0, 0, 9999)] [] (q := 65) (L' := [some (.ref a0), some (.int (gi w10 a0 26))]) (st' := [.int (J 9999), .int (J 0), .ref a0]) (v1 := w12) (by decide +kernel) rfl trivial ?_
        refine sc_pi (pc3 := 68) (cf_V (idx := 211) (ci := 6) [.int (J 0), .int (J 9999)] m_gm_reads (by decide) ⟨by decide, by decide⟩ (List.mem_of_getElem? (i := 1753) (by decide +kernel)) rfl (Nat.le_of_ble_eq_true rfl) h1 (by decide +kernel) (Nat.le_of_ble_eq_true rfl) rfl) (ok_gm_reads N a0 (J 0) (J 9999) S w12) rfl (fun x13 w14 => ?_)
        refine sim_ne0 (o := 5) (tg := 73) (f := 71) (by decide +kernel) rfl rfl (fun _ => ?_) (fun _ => ?_)
        · refine sim_seg [(.iconst 0, 0, 0, 0)] [] (q := 72) (L' := [some (.ref a0), some (.int (gi w10 a0 26))]) (st' := [.int (J 0)]) (v1 := w14) (by decide +kernel) rfl trivial ?_
          exact sim_iret (by decide +kernel) rfl (by decide) rfl
        · refine sim_seg [(.aload_n 0, 0, 0, 0), (.iload_n 1, 0, 0, 0), (.aload_n 0, 0, 0, 0), (.getfield 205, 6, 26, 0)] [] (q := 79) (L' := [some (.ref a0), some (.int (gi w10 a0 26))]) (st' := [.int (gi w14 a0 26), .int (gi w10 a0 26), .ref a0]) (v1 := w14) (by decide +kernel) rfl ⟨h1, trivial⟩ ?_
          refine sc_pv (pc3 := 82) (cf_V (idx := 239) (ci := 6) [.int (gi w10 a0 26), .int (gi w14 a0 26)] m_gm_puts (by decide) ⟨by decide, by decide⟩ (List.mem_of_getElem? (i := 1807) (by decide +kernel)) rfl (Nat.le_of_ble_eq_true rfl) h1 (by decide +kernel) (Nat.le_of_ble_eq_true rfl) rfl) (ok_gm_puts a0 (gi w10 a0 26) (gi w14 a0 26) S w14) rfl (fun w15 => ?_)
          refine sim_seg [(.iconst 1, 0, 0, 1)] [] (q := 83) (L' := [some (.ref a0), some (.int (gi w10 a0 26))]) (st' := [.int (J 1)]) (v1 := w15) (by decide +kernel) rfl trivial ?_
          exact sim_iret (by decide +kernel) rfl (by decide) rfl
      · refine sim_seg [(.aload_n 0, 0, 0, 0), (.iconst 4, 0, 0, 4)] [] (q := 47) (L' := [some (.ref a0), none]) (st' := [.int (J 4), .ref a0]) (v1 := w10) (by decide +kernel) rfl trivial ?_
        refine sc_pi (pc3 := 50) (cf_V (idx := 202) (ci := 6) [.int (J 4)] m_gm_failsAt (by decide) ⟨by decide, by decide⟩ (List.mem_of_getElem? (i := 1749) (by decide +kernel)) rfl (Nat.le_of_ble_eq_true rfl) h1 (by decide +kernel) (Nat.le_of_ble_eq_true rfl) rfl) (ok_gm_failsAt a0 (J 4) S w10) rfl (fun x16 w17 => ?_)
        refine sim_grd fun h18 => ?_
        exact sim_iret (by decide +kernel) rfl h18 rfl
def B_gm_readStatement : bd := (⟨"GateCounterModel", "readStatement", "()Z"⟩, prog_8_method_55_code, 1, (some .boolean), [], 6, 5)
theorem m_gm_readStatement : mV B_gm_readStatement 6 0 := ⟨⟨⟨by decide +kernel, Or.inl rfl⟩, rfl, (List.mem_of_getElem? (i := 1774) (by decide +kernel)), by decide +kernel, (List.mem_of_getElem? (i := 104) (by decide +kernel)), ⟨by decide, by decide⟩, by decide⟩, rfl, (by unfold nar; decide +kernel), (List.mem_of_getElem? (i := 1773) (by decide +kernel)), rfl, (List.mem_of_getElem? (i := 45) (by decide +kernel))⟩
noncomputable def F_gm_readStatement (N : Nat) (a0 : Nat) (S : shp) (v : vl) : Option (Int32 × vl) :=
  grd (kin S a0 = some (0, 6)) <| (F_gm_isWord N a0 (kad S 13) S v).bind fun x2 => (if x2 = (J 0) then (F_gm_isWord N a0 (kad S 14) S v).bind fun x3 => (if x3 = (J 0) then (F_gm_isWord N a0 (kad S 15) S v).bind fun x4 => (if x4 = (J 0) then (F_gm_isWord N a0 (kad S 16) S v).bind fun x5 => (if x5 = (J 0) then (F_gm_failsAt a0 (J 1) S v).bind fun (x6, w7) => grd (narrow .boolean (.int x6) = .int x6) <| some ((x6, w7)) else (F_gm_readSignal N a0 S v).bind fun (x9, w10) => grd (narrow .boolean (.int x9) = .int x9) <| some ((x9, w10))) else (F_gm_readOnce N a0 (J 2) (J 6) (J 999) S v).bind fun (x12, w13) => grd (narrow .boolean (.int x12) = .int x12) <| some ((x12, w13))) else (F_gm_readOnce N a0 (J 1) (J 5) (J 9999) S v).bind fun (x15, w16) => grd (narrow .boolean (.int x15) = .int x15) <| some ((x15, w16))) else (F_gm_readPrescale N a0 S v).bind fun (x18, w19) => grd (narrow .boolean (.int x18) = .int x18) <| some ((x18, w19)))
theorem ok_gm_readStatement (N : Nat) (a0 : Nat) (S : shp) (v : vl) : SimK B_gm_readStatement 0 (entB (bN B_gm_readStatement) [.ref a0]) [] S v (F_gm_readStatement N a0 S v) (ρpi S) := by
  show SimK B_gm_readStatement 0 [some (.ref a0)] [] S v (F_gm_readStatement N a0 S v) _
  unfold F_gm_readStatement
  refine sim_seg [(.aload_n 0, 0, 0, 0)] [] (q := 1) (L' := [some (.ref a0)]) (st' := [.ref a0]) (v1 := v) (by decide +kernel) rfl trivial ?_
  refine sim_ldcs (idx := 243) (j := 13) (tx := "prescale") (pc3 := 3) (by decide +kernel) (by decide +kernel) rfl ?_
  refine sim_grd fun h1 => ?_
  refine sc_ri (pc3 := 6) (cf_V (idx := 195) (ci := 6) [.ref (kad S 13)] m_gm_isWord (by decide) ⟨by decide, by decide⟩ (List.mem_of_getElem? (i := 1743) (by decide +kernel)) rfl (Nat.le_of_ble_eq_true rfl) h1 (by decide +kernel) (Nat.le_of_ble_eq_true rfl) rfl) (ok_gm_isWord N a0 (kad S 13) S v) rfl (fun x2 => ?_)
  refine sim_eq0 (o := 8) (tg := 14) (f := 9) (by decide +kernel) rfl rfl (fun _ => ?_) (fun _ => ?_)
  · refine sim_seg [(.aload_n 0, 0, 0, 0)] [] (q := 15) (L' := [some (.ref a0)]) (st' := [.ref a0]) (v1 := v) (by decide +kernel) rfl trivial ?_
    refine sim_ldcs (idx := 248) (j := 14) (tx := "gate") (pc3 := 17) (by decide +kernel) (by decide +kernel) rfl ?_
    refine sc_ri (pc3 := 20) (cf_V (idx := 195) (ci := 6) [.ref (kad S 14)] m_gm_isWord (by decide) ⟨by decide, by decide⟩ (List.mem_of_getElem? (i := 1743) (by decide +kernel)) rfl (Nat.le_of_ble_eq_true rfl) h1 (by decide +kernel) (Nat.le_of_ble_eq_true rfl) rfl) (ok_gm_isWord N a0 (kad S 14) S v) rfl (fun x3 => ?_)
    refine sim_eq0 (o := 13) (tg := 33) (f := 23) (by decide +kernel) rfl rfl (fun _ => ?_) (fun _ => ?_)
    · refine sim_seg [(.aload_n 0, 0, 0, 0)] [] (q := 34) (L' := [some (.ref a0)]) (st' := [.ref a0]) (v1 := v) (by decide +kernel) rfl trivial ?_
      refine sim_ldcs (idx := 253) (j := 15) (tx := "periods") (pc3 := 36) (by decide +kernel) (by decide +kernel) rfl ?_
      refine sc_ri (pc3 := 39) (cf_V (idx := 195) (ci := 6) [.ref (kad S 15)] m_gm_isWord (by decide) ⟨by decide, by decide⟩ (List.mem_of_getElem? (i := 1743) (by decide +kernel)) rfl (Nat.le_of_ble_eq_true rfl) h1 (by decide +kernel) (Nat.le_of_ble_eq_true rfl) rfl) (ok_gm_isWord N a0 (kad S 15) S v) rfl (fun x4 => ?_)
      refine sim_eq0 (o := 14) (tg := 53) (f := 42) (by decide +kernel) rfl rfl (fun _ => ?_) (fun _ => ?_)
      · refine sim_seg [(.aload_n 0, 0, 0, 0)] [] (q := 54) (L' := [some (.ref a0)]) (st' := [.ref a0]) (v1 := v) (by decide +kernel) rfl trivial ?_
        refine sim_ldcs (idx := 255) (j := 16) (tx := "signal") (pc3 := 56) (by decide +kernel) (by decide +kernel) rfl ?_
        refine sc_ri (pc3 := 59) (cf_V (idx := 195) (ci := 6) [.ref (kad S 16)] m_gm_isWord (by decide) ⟨by decide, by decide⟩ (List.mem_of_getElem? (i := 1743) (by decide +kernel)) rfl (Nat.le_of_ble_eq_true rfl) h1 (by decide +kernel) (Nat.le_of_ble_eq_true rfl) rfl) (ok_gm_isWord N a0 (kad S 16) S v) rfl (fun x5 => ?_)
        refine sim_eq0 (o := 10) (tg := 69) (f := 62) (by decide +kernel) rfl rfl (fun _ => ?_) (fun _ => ?_)
        · refine sim_seg [(.aload_n 0, 0, 0, 0), (.iconst 1, 0, 0, 1)] [] (q := 71) (L' := [some (.ref a0)]) (st' := [.int (J 1), .ref a0]) (v1 := v) (by decide +kernel) rfl trivial ?_
          refine sc_pi (pc3 := 74) (cf_V (idx := 202) (ci := 6) [.int (J 1)] m_gm_failsAt (by decide) ⟨by decide, by decide⟩ (List.mem_of_getElem? (i := 1749) (by decide +kernel)) rfl (Nat.le_of_ble_eq_true rfl) h1 (by decide +kernel) (Nat.le_of_ble_eq_true rfl) rfl) (ok_gm_failsAt a0 (J 1) S v) rfl (fun x6 w7 => ?_)
          refine sim_grd fun h8 => ?_
          exact sim_iret (by decide +kernel) rfl h8 rfl
        · refine sim_seg [(.aload_n 0, 0, 0, 0)] [] (q := 63) (L' := [some (.ref a0)]) (st' := [.ref a0]) (v1 := v) (by decide +kernel) rfl trivial ?_
          refine sc_pi (pc3 := 66) (cf_V (idx := 257) (ci := 6) [] m_gm_readSignal (by decide) ⟨by decide, by decide⟩ (List.mem_of_getElem? (i := 1794) (by decide +kernel)) rfl (Nat.le_of_ble_eq_true rfl) h1 (by decide +kernel) (Nat.le_of_ble_eq_true rfl) rfl) (ok_gm_readSignal N a0 S v) rfl (fun x9 w10 => ?_)
          refine sim_seg [(.goto 8, 0, 0, 0)] [] (q := 74) (L' := [some (.ref a0)]) (st' := [.int x9]) (v1 := w10) (by decide +kernel) rfl trivial ?_
          refine sim_grd fun h11 => ?_
          exact sim_iret (by decide +kernel) rfl h11 rfl
      · refine sim_seg [(.aload_n 0, 0, 0, 0), (.iconst 2, 0, 0, 2), (.bipush 6, 0, 0, 6), (.sipush 999, 0, 0, 999)] [] (q := 49) (L' := [some (.ref a0)]) (st' := [.int (J 999), .int (J 6), .int (J 2), .ref a0]) (v1 := v) (by decide +kernel) rfl trivial ?_
        refine sc_pi (pc3 := 52) (cf_V (idx := 250) (ci := 6) [.int (J 2), .int (J 6), .int (J 999)] m_gm_readOnce (by decide) ⟨by decide, by decide⟩ (List.mem_of_getElem? (i := 1788) (by decide +kernel)) rfl (Nat.le_of_ble_eq_true rfl) h1 (by decide +kernel) (Nat.le_of_ble_eq_true rfl) rfl) (ok_gm_readOnce N a0 (J 2) (J 6) (J 999) S v) rfl (fun x12 w13 => ?_)
        refine sim_grd fun h14 => ?_
        exact sim_iret (by decide +kernel) rfl h14 rfl
    · refine sim_seg [(.aload_n 0, 0, 0, 0), (.iconst 1, 0, 0, 1), (.iconst 5, 0, 0, 5), (.sipush 9999, 0, 0, 9999)] [] (q := 29) (L' := [some (.ref a0)]) (st' := [.int (J 9999), .int (J 5), .int (J 1), .ref a0]) (v1 := v) (by decide +kernel) rfl trivial ?_
      refine sc_pi (pc3 := 32) (cf_V (idx := 250) (ci := 6) [.int (J 1), .int (J 5), .int (J 9999)] m_gm_readOnce (by decide) ⟨by decide, by decide⟩ (List.mem_of_getElem? (i := 1788) (by decide +kernel)) rfl (Nat.le_of_ble_eq_true rfl) h1 (by decide +kernel) (Nat.le_of_ble_eq_true rfl) rfl) (ok_gm_readOnce N a0 (J 1) (J 5) (J 9999) S v) rfl (fun x15 w16 => ?_)
      refine sim_grd fun h17 => ?_
      exact sim_iret (by decide +kernel) rfl h17 rfl
  · refine sim_seg [(.aload_n 0, 0, 0, 0)] [] (q := 10) (L' := [some (.ref a0)]) (st' := [.ref a0]) (v1 := v) (by decide +kernel) rfl trivial ?_
    refine sc_pi (pc3 := 13) (cf_V (idx := 245) (ci := 6) [] m_gm_readPrescale (by decide) ⟨by decide, by decide⟩ (List.mem_of_getElem? (i := 1776) (by decide +kernel)) rfl (Nat.le_of_ble_eq_true rfl) h1 (by decide +kernel) (Nat.le_of_ble_eq_true rfl) rfl) (ok_gm_readPrescale N a0 S v) rfl (fun x18 w19 => ?_)
    refine sim_grd fun h20 => ?_
    exact sim_iret (by decide +kernel) rfl h20 rfl
def B_gm_readText : bd := (⟨"GateCounterModel", "readText", "()Z"⟩, prog_8_method_57_code, 1, (some .boolean), [], 6, 7)
theorem m_gm_readText : mV B_gm_readText 6 0 := ⟨⟨⟨by decide +kernel, Or.inl rfl⟩, rfl, (List.mem_of_getElem? (i := 1733) (by decide +kernel)), by decide +kernel, (List.mem_of_getElem? (i := 104) (by decide +kernel)), ⟨by decide, by decide⟩, by decide⟩, rfl, (by unfold nar; decide +kernel), (List.mem_of_getElem? (i := 1732) (by decide +kernel)), rfl, (List.mem_of_getElem? (i := 36) (by decide +kernel))⟩
noncomputable def Y_gm_readText_16 (N : Nat)  (i16 : vl → Nat → Option (Int32 × vl)) (S : shp) (v : vl) (p0 : Nat) : Option (Int32 × vl) :=
  grd (kin S p0 = some (0, 6)) <| (if (gi v p0 25) = (J 0) then some (((J 1), v)) else (F_gm_readStatement N p0 S v).bind fun (x7, w8) => (if x7 = (J 0) then some (((J 0), w8)) else (F_gm_readEnd N p0 S w8).bind fun (x9, w10) => (if x9 = (J 0) then some (((J 0), w10)) else i16 w10 p0)))
noncomputable def K_gm_readText_16 (N : Nat)  (n : Nat) (S : shp) : vl → Nat → Option (Int32 × vl) :=
  Nat.rec (motive := fun _ => vl → Nat → Option (Int32 × vl)) (fun _ _ => none) (fun _ i => Y_gm_readText_16 N  i S) n
theorem sY_gm_readText_16 (N : Nat)  (i16 : vl → Nat → Option (Int32 × vl)) (S : shp)  (j16 : ∀ (v : vl) (p0 : Nat), SimK B_gm_readText 16 [some (.ref p0)] [] S v (i16 v p0) (ρpi S)) (v : vl) (p0 : Nat) : SimK B_gm_readText 16 [some (.ref p0)] [] S v (Y_gm_readText_16 N  i16 S v p0) (ρpi S) := by
  unfold Y_gm_readText_16
  refine sim_grd fun h6 => ?_
  refine sim_seg [(.aload_n 0, 0, 0, 0), (.getfield 177, 6, 25, 0)] [] (q := 20) (L' := [some (.ref p0)]) (st' := [.int (gi v p0 25)]) (v1 := v) (by decide +kernel) rfl ⟨h6, trivial⟩ ?_
  refine sim_eq0 (o := 19) (tg := 39) (f := 23) (by decide +kernel) rfl rfl (fun _ => ?_) (fun _ => ?_)
  · refine sim_seg [(.iconst 1, 0, 0, 1)] [] (q := 40) (L' := [some (.ref p0)]) (st' := [.int (J 1)]) (v1 := v) (by decide +kernel) rfl trivial ?_
    exact sim_iret (by decide +kernel) rfl (by decide) rfl
  · refine sim_seg [(.aload_n 0, 0, 0, 0)] [] (q := 24) (L' := [some (.ref p0)]) (st' := [.ref p0]) (v1 := v) (by decide +kernel) rfl trivial ?_
    refine sc_pi (pc3 := 27) (cf_V (idx := 266) (ci := 6) [] m_gm_readStatement (by decide) ⟨by decide, by decide⟩ (List.mem_of_getElem? (i := 1771) (by decide +kernel)) rfl (Nat.le_of_ble_eq_true rfl) h6 (by decide +kernel) (Nat.le_of_ble_eq_true rfl) rfl) (ok_gm_readStatement N p0 S v) rfl (fun x7 w8 => ?_)
    refine sim_eq0 (o := 10) (tg := 37) (f := 30) (by decide +kernel) rfl rfl (fun _ => ?_) (fun _ => ?_)
    · refine sim_seg [(.iconst 0, 0, 0, 0)] [] (q := 38) (L' := [some (.ref p0)]) (st' := [.int (J 0)]) (v1 := w8) (by decide +kernel) rfl trivial ?_
      exact sim_iret (by decide +kernel) rfl (by decide) rfl
    · refine sim_seg [(.aload_n 0, 0, 0, 0)] [] (q := 31) (L' := [some (.ref p0)]) (st' := [.ref p0]) (v1 := w8) (by decide +kernel) rfl trivial ?_
      refine sc_pi (pc3 := 34) (cf_V (idx := 263) (ci := 6) [] m_gm_readEnd (by decide) ⟨by decide, by decide⟩ (List.mem_of_getElem? (i := 1767) (by decide +kernel)) rfl (Nat.le_of_ble_eq_true rfl) h6 (by decide +kernel) (Nat.le_of_ble_eq_true rfl) rfl) (ok_gm_readEnd N p0 S w8) rfl (fun x9 w10 => ?_)
      refine sim_ne0 (o := -18) (tg := 16) (f := 37) (by decide +kernel) rfl rfl (fun _ => ?_) (fun _ => ?_)
      · refine sim_seg [(.iconst 0, 0, 0, 0)] [] (q := 38) (L' := [some (.ref p0)]) (st' := [.int (J 0)]) (v1 := w10) (by decide +kernel) rfl trivial ?_
        exact sim_iret (by decide +kernel) rfl (by decide) rfl
      · exact j16 w10 p0
theorem sR_gm_readText_16 (N : Nat)  (S : shp)  (n : Nat) : ∀ (v : vl) (p0 : Nat), SimK B_gm_readText 16 [some (.ref p0)] [] S v (K_gm_readText_16 N  n S v p0) (ρpi S) := by
  induction n with
  | zero => intro v p0; exact sim_none
  | succ k ih => intro v p0; exact sY_gm_readText_16 N   _ S  ih v p0
theorem sK_gm_readText_16 (N : Nat)  (n : Nat) (S : shp) (v : vl) (p0 : Nat) : SimK B_gm_readText 16 [some (.ref p0)] [] S v (K_gm_readText_16 N  n S v p0) (ρpi S) := sR_gm_readText_16 N   S  n  v p0
noncomputable def F_gm_readText (N : Nat) (a0 : Nat) (S : shp) (v : vl) : Option (Int32 × vl) :=
  grd (kin S a0 = some (0, 6)) <| (F_gm_readClock N a0 S v).bind fun (x2, w3) => (if x2 = (J 0) then some (((J 0), w3)) else (F_gm_readEnd N a0 S w3).bind fun (x4, w5) => (if x4 = (J 0) then some (((J 0), w5)) else K_gm_readText_16 N  N S w5 a0))
theorem ok_gm_readText (N : Nat) (a0 : Nat) (S : shp) (v : vl) : SimK B_gm_readText 0 (entB (bN B_gm_readText) [.ref a0]) [] S v (F_gm_readText N a0 S v) (ρpi S) := by
  show SimK B_gm_readText 0 [some (.ref a0)] [] S v (F_gm_readText N a0 S v) _
  unfold F_gm_readText
  refine sim_seg [(.aload_n 0, 0, 0, 0)] [] (q := 1) (L' := [some (.ref a0)]) (st' := [.ref a0]) (v1 := v) (by decide +kernel) rfl trivial ?_
  refine sim_grd fun h1 => ?_
  refine sc_pi (pc3 := 4) (cf_V (idx := 260) (ci := 6) [] m_gm_readClock (by decide) ⟨by decide, by decide⟩ (List.mem_of_getElem? (i := 1734) (by decide +kernel)) rfl (Nat.le_of_ble_eq_true rfl) h1 (by decide +kernel) (Nat.le_of_ble_eq_true rfl) rfl) (ok_gm_readClock N a0 S v) rfl (fun x2 w3 => ?_)
  refine sim_eq0 (o := 10) (tg := 14) (f := 7) (by decide +kernel) rfl rfl (fun _ => ?_) (fun _ => ?_)
  · refine sim_seg [(.iconst 0, 0, 0, 0)] [] (q := 15) (L' := [some (.ref a0)]) (st' := [.int (J 0)]) (v1 := w3) (by decide +kernel) rfl trivial ?_
    exact sim_iret (by decide +kernel) rfl (by decide) rfl
  · refine sim_seg [(.aload_n 0, 0, 0, 0)] [] (q := 8) (L' := [some (.ref a0)]) (st' := [.ref a0]) (v1 := w3) (by decide +kernel) rfl trivial ?_
    refine sc_pi (pc3 := 11) (cf_V (idx := 263) (ci := 6) [] m_gm_readEnd (by decide) ⟨by decide, by decide⟩ (List.mem_of_getElem? (i := 1767) (by decide +kernel)) rfl (Nat.le_of_ble_eq_true rfl) h1 (by decide +kernel) (Nat.le_of_ble_eq_true rfl) rfl) (ok_gm_readEnd N a0 S w3) rfl (fun x4 w5 => ?_)
    refine sim_ne0 (o := 5) (tg := 16) (f := 14) (by decide +kernel) rfl rfl (fun _ => ?_) (fun _ => ?_)
    · refine sim_seg [(.iconst 0, 0, 0, 0)] [] (q := 15) (L' := [some (.ref a0)]) (st' := [.int (J 0)]) (v1 := w5) (by decide +kernel) rfl trivial ?_
      exact sim_iret (by decide +kernel) rfl (by decide) rfl
    · exact sK_gm_readText_16 N N S w5 a0
def B_gm_loadCounter : bd := (⟨"GateCounterModel", "loadCounter", "()I"⟩, prog_8_method_58_code, 2, (some .int), [], 6, 8)
theorem m_gm_loadCounter : mV B_gm_loadCounter 6 0 := ⟨⟨⟨by decide +kernel, Or.inl rfl⟩, rfl, (List.mem_of_getElem? (i := 1718) (by decide +kernel)), by decide +kernel, (List.mem_of_getElem? (i := 104) (by decide +kernel)), ⟨by decide, by decide⟩, by decide⟩, rfl, (by unfold nar; decide +kernel), (List.mem_of_getElem? (i := 1716) (by decide +kernel)), rfl, (List.mem_of_getElem? (i := 1717) (by decide +kernel))⟩
noncomputable def F_gm_loadCounter (N : Nat) (a0 : Nat) (S : shp) (v : vl) : Option (Int32 × vl) :=
  grd (kin S a0 = some (0, 6)) <| lt (si v a0 10 (J 0)) fun w2 => (gr S a0 0).bind fun r3 => (gr S a0 1).bind fun r5 => (F_gm_copies N r3 (J 0) r5 (J 0) (J 199) S w2).bind fun w7 => (F_gm_begins N a0 S w7).bind fun w8 => lt (si (si (si (si w8 a0 20 (J 0)) a0 21 (J (-1))) a0 22 (J 0)) a0 27 (J 0)) fun w9 => (F_gm_advanceToken N a0 S w9).bind fun w10 => (F_gm_readText N a0 S w10).bind fun (x11, w12) => lt (si w12 a0 17 (J 0)) fun w13 => lt (si w13 a0 18 (gi w13 a0 20)) fun w14 => lt (si w14 a0 19 (gi w14 a0 21)) fun w15 => (if x11 = (J 0) then (F_gm_copies N r5 (J 0) r3 (J 0) (J 199) S w15).bind fun w16 => some (((J (-1)), w16)) else lt (si (si w15 a0 5 (J 0)) a0 6 (J 0)) fun w17 => grd (kin S r3 = some (1, 199)) <| some (((gi w17 r3 19), w17)))
theorem ok_gm_loadCounter (N : Nat) (a0 : Nat) (S : shp) (v : vl) : SimK B_gm_loadCounter 0 (entB (bN B_gm_loadCounter) [.ref a0]) [] S v (F_gm_loadCounter N a0 S v) (ρpi S) := by
  show SimK B_gm_loadCounter 0 [some (.ref a0), none] [] S v (F_gm_loadCounter N a0 S v) _
  unfold F_gm_loadCounter
  refine sim_grd fun h1 => ?_
  refine sim_seg [(.aload_n 0, 0, 0, 0), (.iconst 0, 0, 0, 0), (.putfield 38, 6, 10, 0), (.aload_n 0, 0, 0, 0)] [] (q := 6) (L' := [some (.ref a0), none]) (st' := [.ref a0]) (v1 := (si v a0 10 (J 0))) (by decide +kernel) rfl ⟨h1, trivial⟩ ?_
  refine sim_lt (x := (si v a0 10 (J 0))) ?_
  generalize (si v a0 10 (J 0)) = w2
  refine sim_bind fun r3 h4 => ?_
  refine sim_bind fun r5 h6 => ?_
  refine sim_seg [(.getfield 7, 6, 0, 0), (.iconst 0, 0, 0, 0), (.aload_n 0, 0, 0, 0), (.getfield 13, 6, 1, 0), (.iconst 0, 0, 0, 0), (.sipush 199, 0, 0, 199)] [r3, r5] (q := 18) (L' := [some (.ref a0), none]) (st' := [.int (J 199), .int (J 0), .ref r5, .int (J 0), .ref r3]) (v1 := w2) (by decide +kernel) rfl ⟨⟨h1, h4⟩, ⟨h1, h6⟩, trivial⟩ ?_
  refine sc_pv (pc3 := 21) (cf_S (idx := 48) [.ref r3, .int (J 0), .ref r5, .int (J 0), .int (J 199)] m_gm_copies ⟨by decide, by decide⟩ (List.mem_of_getElem? (i := 1719) (by decide +kernel)) rfl (Nat.le_of_ble_eq_true rfl) (by decide +kernel) (Nat.le_of_ble_eq_true rfl) rfl) (ok_gm_copies N r3 (J 0) r5 (J 0) (J 199) S w2) rfl (fun w7 => ?_)
  refine sim_seg [(.aload_n 0, 0, 0, 0)] [] (q := 22) (L' := [some (.ref a0), none]) (st' := [.ref a0]) (v1 := w7) (by decide +kernel) rfl trivial ?_
  refine sc_pv (pc3 := 25) (cf_V (idx := 35) (ci := 6) [] m_gm_begins (by decide) ⟨by decide, by decide⟩ (List.mem_of_getElem? (i := 1601) (by decide +kernel)) rfl (Nat.le_of_ble_eq_true rfl) h1 (by decide +kernel) (Nat.le_of_ble_eq_true rfl) rfl) (ok_gm_begins N a0 S w7) rfl (fun w8 => ?_)
  refine sim_seg [(.aload_n 0, 0, 0, 0), (.iconst 0, 0, 0, 0), (.putfield 180, 6, 20, 0), (.aload_n 0, 0, 0, 0), (.iconst (-1), 0, 0, (-1)), (.putfield 183, 6, 21, 0), (.aload_n 0, 0, 0, 0), (.iconst 0, 0, 0, 0), (.putfield 165, 6, 22, 0), (.aload_n 0, 0, 0, 0), (.iconst 0, 0, 0, 0), (.putfield 226, 6, 27, 0)] [] (q := 45) (L' := [some (.ref a0), none]) (st' := []) (v1 := (si (si (si (si w8 a0 20 (J 0)) a0 21 (J (-1))) a0 22 (J 0)) a0 27 (J 0))) (by decide +kernel) rfl ⟨h1, h1, h1, h1, trivial⟩ ?_
  refine sim_lt (x := (si (si (si (si w8 a0 20 (J 0)) a0 21 (J (-1))) a0 22 (J 0)) a0 27 (J 0))) ?_
  generalize (si (si (si (si w8 a0 20 (J 0)) a0 21 (J (-1))) a0 22 (J 0)) a0 27 (J 0)) = w9
  refine sim_seg [(.aload_n 0, 0, 0, 0)] [] (q := 46) (L' := [some (.ref a0), none]) (st' := [.ref a0]) (v1 := w9) (by decide +kernel) rfl trivial ?_
  refine sc_pv (pc3 := 49) (cf_V (idx := 199) (ci := 6) [] m_gm_advanceToken (by decide) ⟨by decide, by decide⟩ (List.mem_of_getElem? (i := 1722) (by decide +kernel)) rfl (Nat.le_of_ble_eq_true rfl) h1 (by decide +kernel) (Nat.le_of_ble_eq_true rfl) rfl) (ok_gm_advanceToken N a0 S w9) rfl (fun w10 => ?_)
  refine sim_seg [(.aload_n 0, 0, 0, 0)] [] (q := 50) (L' := [some (.ref a0), none]) (st' := [.ref a0]) (v1 := w10) (by decide +kernel) rfl trivial ?_
  refine sc_pi (pc3 := 53) (cf_V (idx := 269) (ci := 6) [] m_gm_readText (by decide) ⟨by decide, by decide⟩ (List.mem_of_getElem? (i := 1730) (by decide +kernel)) rfl (Nat.le_of_ble_eq_true rfl) h1 (by decide +kernel) (Nat.le_of_ble_eq_true rfl) rfl) (ok_gm_readText N a0 S w10) rfl (fun x11 w12 => ?_)
  refine sim_seg [(.istore_n 1, 0, 0, 0)] [] (q := 54) (L' := [some (.ref a0), some (.int x11)]) (st' := []) (v1 := w12) (by decide +kernel) rfl trivial ?_
  refine sim_seg [(.aload_n 0, 0, 0, 0), (.iconst 0, 0, 0, 0), (.putfield 158, 6, 17, 0), (.aload_n 0, 0, 0, 0), (.aload_n 0, 0, 0, 0)] [] (q := 61) (L' := [some (.ref a0), some (.int x11)]) (st' := [.ref a0, .ref a0]) (v1 := (si w12 a0 17 (J 0))) (by decide +kernel) rfl ⟨h1, trivial⟩ ?_
  refine sim_lt (x := (si w12 a0 17 (J 0))) ?_
  generalize (si w12 a0 17 (J 0)) = w13
  refine sim_seg [(.getfield 180, 6, 20, 0), (.putfield 272, 6, 18, 0), (.aload_n 0, 0, 0, 0), (.aload_n 0, 0, 0, 0)] [] (q := 69) (L' := [some (.ref a0), some (.int x11)]) (st' := [.ref a0, .ref a0]) (v1 := (si w13 a0 18 (gi w13 a0 20))) (by decide +kernel) rfl ⟨h1, h1, trivial⟩ ?_
  refine sim_lt (x := (si w13 a0 18 (gi w13 a0 20))) ?_
  generalize (si w13 a0 18 (gi w13 a0 20)) = w14
  refine sim_seg [(.getfield 183, 6, 21, 0), (.putfield 28, 6, 19, 0), (.iload_n 1, 0, 0, 0)] [] (q := 76) (L' := [some (.ref a0), some (.int x11)]) (st' := [.int x11]) (v1 := (si w14 a0 19 (gi w14 a0 21))) (by decide +kernel) rfl ⟨h1, h1, trivial⟩ ?_
  refine sim_lt (x := (si w14 a0 19 (gi w14 a0 21))) ?_
  generalize (si w14 a0 19 (gi w14 a0 21)) = w15
  refine sim_ne0 (o := 21) (tg := 97) (f := 79) (by decide +kernel) rfl rfl (fun _ => ?_) (fun _ => ?_)
  · refine sim_seg [(.aload_n 0, 0, 0, 0), (.getfield 13, 6, 1, 0), (.iconst 0, 0, 0, 0), (.aload_n 0, 0, 0, 0), (.getfield 7, 6, 0, 0), (.iconst 0, 0, 0, 0), (.sipush 199, 0, 0, 199)] [r5, r3] (q := 92) (L' := [some (.ref a0), some (.int x11)]) (st' := [.int (J 199), .int (J 0), .ref r3, .int (J 0), .ref r5]) (v1 := w15) (by decide +kernel) rfl ⟨⟨h1, h6⟩, ⟨h1, h4⟩, trivial⟩ ?_
    refine sc_pv (pc3 := 95) (cf_S (idx := 48) [.ref r5, .int (J 0), .ref r3, .int (J 0), .int (J 199)] m_gm_copies ⟨by decide, by decide⟩ (List.mem_of_getElem? (i := 1719) (by decide +kernel)) rfl (Nat.le_of_ble_eq_true rfl) (by decide +kernel) (Nat.le_of_ble_eq_true rfl) rfl) (ok_gm_copies N r5 (J 0) r3 (J 0) (J 199) S w15) rfl (fun w16 => ?_)
    refine sim_seg [(.iconst (-1), 0, 0, (-1))] [] (q := 96) (L' := [some (.ref a0), some (.int x11)]) (st' := [.int (J (-1))]) (v1 := w16) (by decide +kernel) rfl trivial ?_
    exact sim_iret (by decide +kernel) rfl rfl rfl
  · refine sim_seg [(.aload_n 0, 0, 0, 0), (.iconst 0, 0, 0, 0), (.putfield 45, 6, 5, 0), (.aload_n 0, 0, 0, 0), (.iconst 0, 0, 0, 0), (.putfield 275, 6, 6, 0), (.aload_n 0, 0, 0, 0)] [] (q := 108) (L' := [some (.ref a0), some (.int x11)]) (st' := [.ref a0]) (v1 := (si (si w15 a0 5 (J 0)) a0 6 (J 0))) (by decide +kernel) rfl ⟨h1, ⟨h1, by decide⟩, trivial⟩ ?_
    refine sim_lt (x := (si (si w15 a0 5 (J 0)) a0 6 (J 0))) ?_
    generalize (si (si w15 a0 5 (J 0)) a0 6 (J 0)) = w17
    refine sim_grd fun h18 => ?_
    refine sim_seg [(.getfield 7, 6, 0, 0), (.bipush 19, 0, 0, 19), (.iaload, 0, 0, 0)] [r3] (q := 114) (L' := [some (.ref a0), some (.int x11)]) (st' := [.int (gi w17 r3 19)]) (v1 := w17) (by decide +kernel) rfl ⟨⟨h1, h4⟩, ⟨(Or.inl (kin_alen h18)), (vin_J h18 (by unfold vp_in; decide))⟩, trivial⟩ ?_
    exact sim_iret (by decide +kernel) rfl rfl rfl
def B_gm_errorCode : bd := (⟨"GateCounterModel", "errorCode", "()I"⟩, prog_8_method_59_code, 1, (some .int), [], 6, 0)
theorem m_gm_errorCode : mV B_gm_errorCode 6 0 := ⟨⟨⟨by decide +kernel, Or.inl rfl⟩, rfl, (List.mem_of_getElem? (i := 1814) (by decide +kernel)), by decide +kernel, (List.mem_of_getElem? (i := 104) (by decide +kernel)), ⟨by decide, by decide⟩, by decide⟩, rfl, (by unfold nar; decide +kernel), (List.mem_of_getElem? (i := 1812) (by decide +kernel)), rfl, (List.mem_of_getElem? (i := 1813) (by decide +kernel))⟩
noncomputable def F_gm_errorCode (a0 : Nat) (S : shp) (v : vl) : Option (Int32 × vl) :=
  grd (kin S a0 = some (0, 6)) <| lt (si v a0 10 (J 0)) fun w2 => some (((gi w2 a0 18), w2))
theorem ok_gm_errorCode (a0 : Nat) (S : shp) (v : vl) : SimK B_gm_errorCode 0 (entB (bN B_gm_errorCode) [.ref a0]) [] S v (F_gm_errorCode a0 S v) (ρpi S) := by
  show SimK B_gm_errorCode 0 [some (.ref a0)] [] S v (F_gm_errorCode a0 S v) _
  unfold F_gm_errorCode
  refine sim_grd fun h1 => ?_
  refine sim_seg [(.aload_n 0, 0, 0, 0), (.iconst 0, 0, 0, 0), (.putfield 38, 6, 10, 0), (.aload_n 0, 0, 0, 0)] [] (q := 6) (L' := [some (.ref a0)]) (st' := [.ref a0]) (v1 := (si v a0 10 (J 0))) (by decide +kernel) rfl ⟨h1, trivial⟩ ?_
  refine sim_lt (x := (si v a0 10 (J 0))) ?_
  generalize (si v a0 10 (J 0)) = w2
  refine sim_seg [(.getfield 272, 6, 18, 0)] [] (q := 9) (L' := [some (.ref a0)]) (st' := [.int (gi w2 a0 18)]) (v1 := w2) (by decide +kernel) rfl ⟨h1, trivial⟩ ?_
  exact sim_iret (by decide +kernel) rfl rfl rfl
def B_gm_errorOffset : bd := (⟨"GateCounterModel", "errorOffset", "()I"⟩, prog_8_method_60_code, 1, (some .int), [], 6, 0)
theorem m_gm_errorOffset : mV B_gm_errorOffset 6 0 := ⟨⟨⟨by decide +kernel, Or.inl rfl⟩, rfl, (List.mem_of_getElem? (i := 1818) (by decide +kernel)), by decide +kernel, (List.mem_of_getElem? (i := 104) (by decide +kernel)), ⟨by decide, by decide⟩, by decide⟩, rfl, (by unfold nar; decide +kernel), (List.mem_of_getElem? (i := 1816) (by decide +kernel)), rfl, (List.mem_of_getElem? (i := 1817) (by decide +kernel))⟩
noncomputable def F_gm_errorOffset (a0 : Nat) (S : shp) (v : vl) : Option (Int32 × vl) :=
  grd (kin S a0 = some (0, 6)) <| lt (si v a0 10 (J 0)) fun w2 => some (((gi w2 a0 19), w2))
theorem ok_gm_errorOffset (a0 : Nat) (S : shp) (v : vl) : SimK B_gm_errorOffset 0 (entB (bN B_gm_errorOffset) [.ref a0]) [] S v (F_gm_errorOffset a0 S v) (ρpi S) := by
  show SimK B_gm_errorOffset 0 [some (.ref a0)] [] S v (F_gm_errorOffset a0 S v) _
  unfold F_gm_errorOffset
  refine sim_grd fun h1 => ?_
  refine sim_seg [(.aload_n 0, 0, 0, 0), (.iconst 0, 0, 0, 0), (.putfield 38, 6, 10, 0), (.aload_n 0, 0, 0, 0)] [] (q := 6) (L' := [some (.ref a0)]) (st' := [.ref a0]) (v1 := (si v a0 10 (J 0))) (by decide +kernel) rfl ⟨h1, trivial⟩ ?_
  refine sim_lt (x := (si v a0 10 (J 0))) ?_
  generalize (si v a0 10 (J 0)) = w2
  refine sim_seg [(.getfield 28, 6, 19, 0)] [] (q := 9) (L' := [some (.ref a0)]) (st' := [.int (gi w2 a0 19)]) (v1 := w2) (by decide +kernel) rfl ⟨h1, trivial⟩ ?_
  exact sim_iret (by decide +kernel) rfl rfl rfl
def B_gm_count : bd := (⟨"GateCounterModel", "count", "(I)I"⟩, prog_8_method_61_code, 2, (some .int), [], 6, 0)
theorem m_gm_count : mV B_gm_count 6 1 := ⟨⟨⟨by decide +kernel, Or.inl rfl⟩, rfl, (List.mem_of_getElem? (i := 1822) (by decide +kernel)), by decide +kernel, (List.mem_of_getElem? (i := 104) (by decide +kernel)), ⟨by decide, by decide⟩, by decide⟩, rfl, (by unfold nar; decide +kernel), (List.mem_of_getElem? (i := 1820) (by decide +kernel)), rfl, (List.mem_of_getElem? (i := 1821) (by decide +kernel))⟩
noncomputable def F_gm_count (a0 : Nat) (b1 : Int32) (S : shp) (v : vl) : Option (Int32 × vl) :=
  grd (kin S a0 = some (0, 6)) <| lt (si v a0 10 (J 0)) fun w2 => (if b1 = J 0 then (gr S a0 0).bind fun r3 => grd (kin S r3 = some (1, 199)) <| some (((gi w2 r3 0), w2)) else if b1 = J 1 then (gr S a0 0).bind fun r7 => grd (kin S r7 = some (1, 199)) <| some (((gi w2 r7 11), w2)) else if b1 = J 2 then (gr S a0 0).bind fun r11 => grd (kin S r11 = some (1, 199)) <| some (((gi w2 r11 14), w2)) else if b1 = J 3 then (gr S a0 0).bind fun r15 => grd (kin S r15 = some (1, 199)) <| some (((gi w2 r15 16), w2)) else if b1 = J 4 then (gr S a0 0).bind fun r19 => grd (kin S r19 = some (1, 199)) <| some (((gi w2 r19 19), w2)) else if b1 = J 5 then (gr S a0 0).bind fun r23 => grd (kin S r23 = some (1, 199)) <| some (((gi w2 r23 20), w2)) else if b1 = J 6 then (gr S a0 0).bind fun r27 => grd (kin S r27 = some (1, 199)) <| some (((gi w2 r27 21), w2)) else if b1 = J 7 then (gr S a0 0).bind fun r31 => grd (kin S r31 = some (1, 199)) <| some (((gi w2 r31 22), w2)) else if b1 = J 8 then some (((gi w2 a0 5), w2)) else lt (si w2 a0 10 (J 1)) fun w36 => some (((J 0), w36)))
theorem ok_gm_count (a0 : Nat) (b1 : Int32) (S : shp) (v : vl) : SimK B_gm_count 0 (entB (bN B_gm_count) [.ref a0, .int b1]) [] S v (F_gm_count a0 b1 S v) (ρpi S) := by
  show SimK B_gm_count 0 [some (.ref a0), some (.int b1)] [] S v (F_gm_count a0 b1 S v) _
  unfold F_gm_count
  refine sim_grd fun h1 => ?_
  refine sim_seg [(.aload_n 0, 0, 0, 0), (.iconst 0, 0, 0, 0), (.putfield 38, 6, 10, 0), (.iload_n 1, 0, 0, 0)] [] (q := 6) (L' := [some (.ref a0), some (.int b1)]) (st' := [.int b1]) (v1 := (si v a0 10 (J 0))) (by decide +kernel) rfl ⟨h1, trivial⟩ ?_
  refine sim_lt (x := (si v a0 10 (J 0))) ?_
  generalize (si v a0 10 (J 0)) = w2
  refine sim_case (df := 118) (lw := 0) (hg := 8) (offs := #[50, 57, 65, 73, 81, 89, 97, 105, 113]) (len := 50) (z := 0) (o := 50) (tg := 56) (by decide +kernel) rfl rfl (by decide) (fun _ => ?_) (fun h6 => ?_)
  · refine sim_bind fun r3 h4 => ?_
    refine sim_grd fun h5 => ?_
    refine sim_seg [(.aload_n 0, 0, 0, 0), (.getfield 7, 6, 0, 0), (.iconst 0, 0, 0, 0), (.iaload, 0, 0, 0)] [r3] (q := 62) (L' := [some (.ref a0), some (.int b1)]) (st' := [.int (gi w2 r3 0)]) (v1 := w2) (by decide +kernel) rfl ⟨⟨h1, h4⟩, ⟨(Or.inl (kin_alen h5)), (vin_J h5 (by unfold vp_in; decide))⟩, trivial⟩ ?_
    exact sim_iret (by decide +kernel) rfl rfl rfl
  refine sim_case (df := 118) (lw := 0) (hg := 8) (offs := #[50, 57, 65, 73, 81, 89, 97, 105, 113]) (len := 50) (z := 1) (o := 57) (tg := 63) (by decide +kernel) rfl rfl (by decide) (fun _ => ?_) (fun h10 => ?_)
  · refine sim_bind fun r7 h8 => ?_
    refine sim_grd fun h9 => ?_
    refine sim_seg [(.aload_n 0, 0, 0, 0), (.getfield 7, 6, 0, 0), (.bipush 11, 0, 0, 11), (.iaload, 0, 0, 0)] [r7] (q := 70) (L' := [some (.ref a0), some (.int b1)]) (st' := [.int (gi w2 r7 11)]) (v1 := w2) (by decide +kernel) rfl ⟨⟨h1, h8⟩, ⟨(Or.inl (kin_alen h9)), (vin_J h9 (by unfold vp_in; decide))⟩, trivial⟩ ?_
    exact sim_iret (by decide +kernel) rfl rfl rfl
  refine sim_case (df := 118) (lw := 0) (hg := 8) (offs := #[50, 57, 65, 73, 81, 89, 97, 105, 113]) (len := 50) (z := 2) (o := 65) (tg := 71) (by decide +kernel) rfl rfl (by decide) (fun _ => ?_) (fun h14 => ?_)
  · refine sim_bind fun r11 h12 => ?_
    refine sim_grd fun h13 => ?_
    refine sim_seg [(.aload_n 0, 0, 0, 0), (.getfield 7, 6, 0, 0), (.bipush 14, 0, 0, 14), (.iaload, 0, 0, 0)] [r11] (q := 78) (L' := [some (.ref a0), some (.int b1)]) (st' := [.int (gi w2 r11 14)]) (v1 := w2) (by decide +kernel) rfl ⟨⟨h1, h12⟩, ⟨(Or.inl (kin_alen h13)), (vin_J h13 (by unfold vp_in; decide))⟩, trivial⟩ ?_
    exact sim_iret (by decide +kernel) rfl rfl rfl
  refine sim_case (df := 118) (lw := 0) (hg := 8) (offs := #[50, 57, 65, 73, 81, 89, 97, 105, 113]) (len := 50) (z := 3) (o := 73) (tg := 79) (by decide +kernel) rfl rfl (by decide) (fun _ => ?_) (fun h18 => ?_)
  · refine sim_bind fun r15 h16 => ?_
    refine sim_grd fun h17 => ?_
    refine sim_seg [(.aload_n 0, 0, 0, 0), (.getfield 7, 6, 0, 0), (.bipush 16, 0, 0, 16), (.iaload, 0, 0, 0)] [r15] (q := 86) (L' := [some (.ref a0), some (.int b1)]) (st' := [.int (gi w2 r15 16)]) (v1 := w2) (by decide +kernel) rfl ⟨⟨h1, h16⟩, ⟨(Or.inl (kin_alen h17)), (vin_J h17 (by unfold vp_in; decide))⟩, trivial⟩ ?_
    exact sim_iret (by decide +kernel) rfl rfl rfl
  refine sim_case (df := 118) (lw := 0) (hg := 8) (offs := #[50, 57, 65, 73, 81, 89, 97, 105, 113]) (len := 50) (z := 4) (o := 81) (tg := 87) (by decide +kernel) rfl rfl (by decide) (fun _ => ?_) (fun h22 => ?_)
  · refine sim_bind fun r19 h20 => ?_
    refine sim_grd fun h21 => ?_
    refine sim_seg [(.aload_n 0, 0, 0, 0), (.getfield 7, 6, 0, 0), (.bipush 19, 0, 0, 19), (.iaload, 0, 0, 0)] [r19] (q := 94) (L' := [some (.ref a0), some (.int b1)]) (st' := [.int (gi w2 r19 19)]) (v1 := w2) (by decide +kernel) rfl ⟨⟨h1, h20⟩, ⟨(Or.inl (kin_alen h21)), (vin_J h21 (by unfold vp_in; decide))⟩, trivial⟩ ?_
    exact sim_iret (by decide +kernel) rfl rfl rfl
  refine sim_case (df := 118) (lw := 0) (hg := 8) (offs := #[50, 57, 65, 73, 81, 89, 97, 105, 113]) (len := 50) (z := 5) (o := 89) (tg := 95) (by decide +kernel) rfl rfl (by decide) (fun _ => ?_) (fun h26 => ?_)
  · refine sim_bind fun r23 h24 => ?_
    refine sim_grd fun h25 => ?_
    refine sim_seg [(.aload_n 0, 0, 0, 0), (.getfield 7, 6, 0, 0), (.bipush 20, 0, 0, 20), (.iaload, 0, 0, 0)] [r23] (q := 102) (L' := [some (.ref a0), some (.int b1)]) (st' := [.int (gi w2 r23 20)]) (v1 := w2) (by decide +kernel) rfl ⟨⟨h1, h24⟩, ⟨(Or.inl (kin_alen h25)), (vin_J h25 (by unfold vp_in; decide))⟩, trivial⟩ ?_
    exact sim_iret (by decide +kernel) rfl rfl rfl
  refine sim_case (df := 118) (lw := 0) (hg := 8) (offs := #[50, 57, 65, 73, 81, 89, 97, 105, 113]) (len := 50) (z := 6) (o := 97) (tg := 103) (by decide +kernel) rfl rfl (by decide) (fun _ => ?_) (fun h30 => ?_)
  · refine sim_bind fun r27 h28 => ?_
    refine sim_grd fun h29 => ?_
    refine sim_seg [(.aload_n 0, 0, 0, 0), (.getfield 7, 6, 0, 0), (.bipush 21, 0, 0, 21), (.iaload, 0, 0, 0)] [r27] (q := 110) (L' := [some (.ref a0), some (.int b1)]) (st' := [.int (gi w2 r27 21)]) (v1 := w2) (by decide +kernel) rfl ⟨⟨h1, h28⟩, ⟨(Or.inl (kin_alen h29)), (vin_J h29 (by unfold vp_in; decide))⟩, trivial⟩ ?_
    exact sim_iret (by decide +kernel) rfl rfl rfl
  refine sim_case (df := 118) (lw := 0) (hg := 8) (offs := #[50, 57, 65, 73, 81, 89, 97, 105, 113]) (len := 50) (z := 7) (o := 105) (tg := 111) (by decide +kernel) rfl rfl (by decide) (fun _ => ?_) (fun h34 => ?_)
  · refine sim_bind fun r31 h32 => ?_
    refine sim_grd fun h33 => ?_
    refine sim_seg [(.aload_n 0, 0, 0, 0), (.getfield 7, 6, 0, 0), (.bipush 22, 0, 0, 22), (.iaload, 0, 0, 0)] [r31] (q := 118) (L' := [some (.ref a0), some (.int b1)]) (st' := [.int (gi w2 r31 22)]) (v1 := w2) (by decide +kernel) rfl ⟨⟨h1, h32⟩, ⟨(Or.inl (kin_alen h33)), (vin_J h33 (by unfold vp_in; decide))⟩, trivial⟩ ?_
    exact sim_iret (by decide +kernel) rfl rfl rfl
  refine sim_case (df := 118) (lw := 0) (hg := 8) (offs := #[50, 57, 65, 73, 81, 89, 97, 105, 113]) (len := 50) (z := 8) (o := 113) (tg := 119) (by decide +kernel) rfl rfl (by decide) (fun _ => ?_) (fun h35 => ?_)
  · refine sim_seg [(.aload_n 0, 0, 0, 0), (.getfield 45, 6, 5, 0)] [] (q := 123) (L' := [some (.ref a0), some (.int b1)]) (st' := [.int (gi w2 a0 5)]) (v1 := w2) (by decide +kernel) rfl ⟨h1, trivial⟩ ?_
    exact sim_iret (by decide +kernel) rfl rfl rfl
  refine sim_tdef (df := 118) (lw := 0) (hg := 8) (offs := #[50, 57, 65, 73, 81, 89, 97, 105, 113]) (len := 50) (tg := 124) (by decide +kernel) rfl (by have eh6 := ne_J h6 (by decide) (by decide); have eh10 := ne_J h10 (by decide) (by decide); have eh14 := ne_J h14 (by decide) (by decide); have eh18 := ne_J h18 (by decide) (by decide); have eh22 := ne_J h22 (by decide) (by decide); have eh26 := ne_J h26 (by decide) (by decide); have eh30 := ne_J h30 (by decide) (by decide); have eh34 := ne_J h34 (by decide) (by decide); have eh35 := ne_J h35 (by decide) (by decide); omega) ?_
  refine sim_seg [(.aload_n 0, 0, 0, 0), (.iconst 1, 0, 0, 1), (.putfield 38, 6, 10, 0), (.iconst 0, 0, 0, 0)] [] (q := 130) (L' := [some (.ref a0), some (.int b1)]) (st' := [.int (J 0)]) (v1 := (si w2 a0 10 (J 1))) (by decide +kernel) rfl ⟨h1, trivial⟩ ?_
  refine sim_lt (x := (si w2 a0 10 (J 1))) ?_
  generalize (si w2 a0 10 (J 1)) = w36
  exact sim_iret (by decide +kernel) rfl rfl rfl
def B_gm_fails : bd := (⟨"GateCounterModel", "fails", "(ZI)Z"⟩, prog_8_method_5_code, 3, (some .boolean), [], 6, 0)
theorem m_gm_fails : mV B_gm_fails 6 2 := ⟨⟨⟨by decide +kernel, Or.inl rfl⟩, rfl, (List.mem_of_getElem? (i := 1830) (by decide +kernel)), by decide +kernel, (List.mem_of_getElem? (i := 104) (by decide +kernel)), ⟨by decide, by decide⟩, by decide⟩, rfl, (by unfold nar; decide +kernel), (List.mem_of_getElem? (i := 1829) (by decide +kernel)), rfl, (List.mem_of_getElem? (i := 53) (by decide +kernel))⟩
noncomputable def F_gm_fails (a0 : Nat) (b1 : Int32) (b2 : Int32) (S : shp) (v : vl) : Option (Int32 × vl) :=
  (if b1 = (J 0) then grd (narrow .boolean (.int b1) = .int b1) <| some ((b1, v)) else grd (kin S a0 = some (0, 6)) <| lt (si v a0 10 b2) fun w3 => grd (narrow .boolean (.int b1) = .int b1) <| some ((b1, w3)))
theorem ok_gm_fails (a0 : Nat) (b1 : Int32) (b2 : Int32) (S : shp) (v : vl) : SimK B_gm_fails 0 (entB (bN B_gm_fails) [.ref a0, .int b1, .int b2]) [] S v (F_gm_fails a0 b1 b2 S v) (ρpi S) := by
  show SimK B_gm_fails 0 [some (.ref a0), some (.int b1), some (.int b2)] [] S v (F_gm_fails a0 b1 b2 S v) _
  unfold F_gm_fails
  refine sim_seg [(.iload_n 1, 0, 0, 0)] [] (q := 1) (L' := [some (.ref a0), some (.int b1), some (.int b2)]) (st' := [.int b1]) (v1 := v) (by decide +kernel) rfl trivial ?_
  refine sim_eq0 (o := 8) (tg := 9) (f := 4) (by decide +kernel) rfl rfl (fun _ => ?_) (fun _ => ?_)
  · refine sim_seg [(.iload_n 1, 0, 0, 0)] [] (q := 10) (L' := [some (.ref a0), some (.int b1), some (.int b2)]) (st' := [.int b1]) (v1 := v) (by decide +kernel) rfl trivial ?_
    refine sim_grd fun h1 => ?_
    exact sim_iret (by decide +kernel) rfl h1 rfl
  · refine sim_grd fun h2 => ?_
    refine sim_seg [(.aload_n 0, 0, 0, 0), (.iload_n 2, 0, 0, 0), (.putfield 38, 6, 10, 0), (.iload_n 1, 0, 0, 0)] [] (q := 10) (L' := [some (.ref a0), some (.int b1), some (.int b2)]) (st' := [.int b1]) (v1 := (si v a0 10 b2)) (by decide +kernel) rfl ⟨h2, trivial⟩ ?_
    refine sim_lt (x := (si v a0 10 b2)) ?_
    generalize (si v a0 10 b2) = w3
    refine sim_grd fun h4 => ?_
    exact sim_iret (by decide +kernel) rfl h4 rfl
def B_gm_setting : bd := (⟨"GateCounterModel", "setting", "(I)I"⟩, prog_8_method_62_code, 2, (some .int), [], 6, 1)
theorem m_gm_setting : mV B_gm_setting 6 1 := ⟨⟨⟨by decide +kernel, Or.inl rfl⟩, rfl, (List.mem_of_getElem? (i := 1826) (by decide +kernel)), by decide +kernel, (List.mem_of_getElem? (i := 104) (by decide +kernel)), ⟨by decide, by decide⟩, by decide⟩, rfl, (by unfold nar; decide +kernel), (List.mem_of_getElem? (i := 1824) (by decide +kernel)), rfl, (List.mem_of_getElem? (i := 1825) (by decide +kernel))⟩
noncomputable def K_gm_setting_21  (S : shp) (v : vl) (p0 : Nat) (p1 : Int32) (s0 : Nat) (s1 : Int32) : Option (Int32 × vl) :=
  grd (kin S s0 = some (0, 6)) <| (F_gm_fails s0 s1 (J 1) S v).bind fun (x5, w6) => (if x5 = (J 0) then grd (kin S p0 = some (0, 6)) <| (gr S p0 0).bind fun r8 => grd (kin S r8 = some (1, 199)) <| grd (vp_in ((J 1) + p1) (alen S r8)) <| some (((gi w6 r8 (Int32.toNatClampNeg ((J 1) + p1))), w6)) else some (((J 0), w6)))
theorem sK_gm_setting_21   (S : shp) (v : vl) (p0 : Nat) (p1 : Int32) (s0 : Nat) (s1 : Int32) : SimK B_gm_setting 21 [some (.ref p0), some (.int p1)] [.int s1, .ref s0] S v (K_gm_setting_21   S v p0 p1 s0 s1) (ρpi S) := by
  unfold K_gm_setting_21
  refine sim_seg [(.iconst 1, 0, 0, 1)] [] (q := 22) (L' := [some (.ref p0), some (.int p1)]) (st' := [.int (J 1), .int s1, .ref s0]) (v1 := v) (by decide +kernel) rfl trivial ?_
  refine sim_grd fun h4 => ?_
  refine sc_pi (pc3 := 25) (cf_V (idx := 279) (ci := 6) [.int s1, .int (J 1)] m_gm_fails (by decide) ⟨by decide, by decide⟩ (List.mem_of_getElem? (i := 1827) (by decide +kernel)) rfl (Nat.le_of_ble_eq_true rfl) h4 (by decide +kernel) (Nat.le_of_ble_eq_true rfl) rfl) (ok_gm_fails s0 s1 (J 1) S v) rfl (fun x5 w6 => ?_)
  refine sim_eq0 (o := 7) (tg := 32) (f := 28) (by decide +kernel) rfl rfl (fun _ => ?_) (fun _ => ?_)
  · refine sim_grd fun h7 => ?_
    refine sim_bind fun r8 h9 => ?_
    refine sim_grd fun h10 => ?_
    refine sim_grd fun h11 => ?_
    refine sim_seg [(.aload_n 0, 0, 0, 0), (.getfield 7, 6, 0, 0), (.iconst 1, 0, 0, 1), (.iload_n 1, 0, 0, 0), (.iadd, 0, 0, 0), (.iaload, 0, 0, 0)] [r8] (q := 40) (L' := [some (.ref p0), some (.int p1)]) (st' := [.int (gi w6 r8 (Int32.toNatClampNeg ((J 1) + p1)))]) (v1 := w6) (by decide +kernel) rfl ⟨⟨h7, h9⟩, ⟨(Or.inl (kin_alen h10)), h11⟩, trivial⟩ ?_
    exact sim_iret (by decide +kernel) rfl rfl rfl
  · refine sim_seg [(.iconst 0, 0, 0, 0), (.goto 11, 0, 0, 0)] [] (q := 40) (L' := [some (.ref p0), some (.int p1)]) (st' := [.int (J 0)]) (v1 := w6) (by decide +kernel) rfl trivial ?_
    exact sim_iret (by decide +kernel) rfl rfl rfl
noncomputable def F_gm_setting (a0 : Nat) (b1 : Int32) (S : shp) (v : vl) : Option (Int32 × vl) :=
  grd (kin S a0 = some (0, 6)) <| lt (si v a0 10 (J 0)) fun w2 => (F_gm_inRange b1 (J 0) (J 6) S w2).bind fun x3 => (if x3 = (J 0) then K_gm_setting_21  S w2 a0 b1 a0 (J 1) else K_gm_setting_21  S w2 a0 b1 a0 (J 0))
theorem ok_gm_setting (a0 : Nat) (b1 : Int32) (S : shp) (v : vl) : SimK B_gm_setting 0 (entB (bN B_gm_setting) [.ref a0, .int b1]) [] S v (F_gm_setting a0 b1 S v) (ρpi S) := by
  show SimK B_gm_setting 0 [some (.ref a0), some (.int b1)] [] S v (F_gm_setting a0 b1 S v) _
  unfold F_gm_setting
  refine sim_grd fun h1 => ?_
  refine sim_seg [(.aload_n 0, 0, 0, 0), (.iconst 0, 0, 0, 0), (.putfield 38, 6, 10, 0), (.aload_n 0, 0, 0, 0), (.iload_n 1, 0, 0, 0), (.iconst 0, 0, 0, 0), (.bipush 6, 0, 0, 6)] [] (q := 10) (L' := [some (.ref a0), some (.int b1)]) (st' := [.int (J 6), .int (J 0), .int b1, .ref a0]) (v1 := (si v a0 10 (J 0))) (by decide +kernel) rfl ⟨h1, trivial⟩ ?_
  refine sim_lt (x := (si v a0 10 (J 0))) ?_
  generalize (si v a0 10 (J 0)) = w2
  refine sc_ri (pc3 := 13) (cf_S (idx := 41) [.int b1, .int (J 0), .int (J 6)] m_gm_inRange ⟨by decide, by decide⟩ (List.mem_of_getElem? (i := 1712) (by decide +kernel)) rfl (Nat.le_of_ble_eq_true rfl) (by decide +kernel) (Nat.le_of_ble_eq_true rfl) rfl) (ok_gm_inRange b1 (J 0) (J 6) S w2) rfl (fun x3 => ?_)
  refine sim_ne0 (o := 7) (tg := 20) (f := 16) (by decide +kernel) rfl rfl (fun _ => ?_) (fun _ => ?_)
  · refine sim_seg [(.iconst 1, 0, 0, 1), (.goto 4, 0, 0, 0)] [] (q := 21) (L' := [some (.ref a0), some (.int b1)]) (st' := [.int (J 1), .ref a0]) (v1 := w2) (by decide +kernel) rfl trivial ?_
    exact sK_gm_setting_21 S w2 a0 b1 a0 (J 1)
  · refine sim_seg [(.iconst 0, 0, 0, 0)] [] (q := 21) (L' := [some (.ref a0), some (.int b1)]) (st' := [.int (J 0), .ref a0]) (v1 := w2) (by decide +kernel) rfl trivial ?_
    exact sK_gm_setting_21 S w2 a0 b1 a0 (J 0)
def B_gm_state : bd := (⟨"GateCounterModel", "state", "(I)I"⟩, prog_8_method_63_code, 2, (some .int), [], 6, 1)
theorem m_gm_state : mV B_gm_state 6 1 := ⟨⟨⟨by decide +kernel, Or.inl rfl⟩, rfl, (List.mem_of_getElem? (i := 1834) (by decide +kernel)), by decide +kernel, (List.mem_of_getElem? (i := 104) (by decide +kernel)), ⟨by decide, by decide⟩, by decide⟩, rfl, (by unfold nar; decide +kernel), (List.mem_of_getElem? (i := 1832) (by decide +kernel)), rfl, (List.mem_of_getElem? (i := 1833) (by decide +kernel))⟩
noncomputable def F_gm_state (a0 : Nat) (b1 : Int32) (S : shp) (v : vl) : Option (Int32 × vl) :=
  grd (kin S a0 = some (0, 6)) <| lt (si v a0 10 (J 0)) fun w2 => (if b1 = J 0 then (gr S a0 0).bind fun r3 => grd (kin S r3 = some (1, 199)) <| some (((gi w2 r3 9), w2)) else if b1 = J 1 then (gr S a0 0).bind fun r7 => grd (kin S r7 = some (1, 199)) <| some (((gi w2 r7 8), w2)) else if b1 = J 2 then (gr S a0 0).bind fun r11 => grd (kin S r11 = some (1, 199)) <| some (((gi w2 r11 12), w2)) else if b1 = J 3 then (gr S a0 0).bind fun r15 => grd (kin S r15 = some (1, 199)) <| some (((gi w2 r15 13), w2)) else if b1 = J 4 then (gr S a0 0).bind fun r19 => grd (kin S r19 = some (1, 199)) <| some (((gi w2 r19 15), w2)) else if b1 = J 5 then (gr S a0 0).bind fun r23 => grd (kin S r23 = some (1, 199)) <| (if (gi w2 r23 20) = (gi w2 r23 19) then some (((J (-1)), w2)) else (F_gm_segmentTime a0 (gi w2 r23 20) S w2).bind fun x26 => some ((x26, w2))) else lt (si w2 a0 10 (J 1)) fun w28 => some (((J 0), w28)))
theorem ok_gm_state (a0 : Nat) (b1 : Int32) (S : shp) (v : vl) : SimK B_gm_state 0 (entB (bN B_gm_state) [.ref a0, .int b1]) [] S v (F_gm_state a0 b1 S v) (ρpi S) := by
  show SimK B_gm_state 0 [some (.ref a0), some (.int b1)] [] S v (F_gm_state a0 b1 S v) _
  unfold F_gm_state
  refine sim_grd fun h1 => ?_
  refine sim_seg [(.aload_n 0, 0, 0, 0), (.iconst 0, 0, 0, 0), (.putfield 38, 6, 10, 0), (.iload_n 1, 0, 0, 0)] [] (q := 6) (L' := [some (.ref a0), some (.int b1)]) (st' := [.int b1]) (v1 := (si v a0 10 (J 0))) (by decide +kernel) rfl ⟨h1, trivial⟩ ?_
  refine sim_lt (x := (si v a0 10 (J 0))) ?_
  generalize (si v a0 10 (J 0)) = w2
  refine sim_case (df := 111) (lw := 0) (hg := 5) (offs := #[38, 46, 54, 62, 70, 78]) (len := 38) (z := 0) (o := 38) (tg := 44) (by decide +kernel) rfl rfl (by decide) (fun _ => ?_) (fun h6 => ?_)
  · refine sim_bind fun r3 h4 => ?_
    refine sim_grd fun h5 => ?_
    refine sim_seg [(.aload_n 0, 0, 0, 0), (.getfield 7, 6, 0, 0), (.bipush 9, 0, 0, 9), (.iaload, 0, 0, 0)] [r3] (q := 51) (L' := [some (.ref a0), some (.int b1)]) (st' := [.int (gi w2 r3 9)]) (v1 := w2) (by decide +kernel) rfl ⟨⟨h1, h4⟩, ⟨(Or.inl (kin_alen h5)), (vin_J h5 (by unfold vp_in; decide))⟩, trivial⟩ ?_
    exact sim_iret (by decide +kernel) rfl rfl rfl
  refine sim_case (df := 111) (lw := 0) (hg := 5) (offs := #[38, 46, 54, 62, 70, 78]) (len := 38) (z := 1) (o := 46) (tg := 52) (by decide +kernel) rfl rfl (by decide) (fun _ => ?_) (fun h10 => ?_)
  · refine sim_bind fun r7 h8 => ?_
    refine sim_grd fun h9 => ?_
    refine sim_seg [(.aload_n 0, 0, 0, 0), (.getfield 7, 6, 0, 0), (.bipush 8, 0, 0, 8), (.iaload, 0, 0, 0)] [r7] (q := 59) (L' := [some (.ref a0), some (.int b1)]) (st' := [.int (gi w2 r7 8)]) (v1 := w2) (by decide +kernel) rfl ⟨⟨h1, h8⟩, ⟨(Or.inl (kin_alen h9)), (vin_J h9 (by unfold vp_in; decide))⟩, trivial⟩ ?_
    exact sim_iret (by decide +kernel) rfl rfl rfl
  refine sim_case (df := 111) (lw := 0) (hg := 5) (offs := #[38, 46, 54, 62, 70, 78]) (len := 38) (z := 2) (o := 54) (tg := 60) (by decide +kernel) rfl rfl (by decide) (fun _ => ?_) (fun h14 => ?_)
  · refine sim_bind fun r11 h12 => ?_
    refine sim_grd fun h13 => ?_
    refine sim_seg [(.aload_n 0, 0, 0, 0), (.getfield 7, 6, 0, 0), (.bipush 12, 0, 0, 12), (.iaload, 0, 0, 0)] [r11] (q := 67) (L' := [some (.ref a0), some (.int b1)]) (st' := [.int (gi w2 r11 12)]) (v1 := w2) (by decide +kernel) rfl ⟨⟨h1, h12⟩, ⟨(Or.inl (kin_alen h13)), (vin_J h13 (by unfold vp_in; decide))⟩, trivial⟩ ?_
    exact sim_iret (by decide +kernel) rfl rfl rfl
  refine sim_case (df := 111) (lw := 0) (hg := 5) (offs := #[38, 46, 54, 62, 70, 78]) (len := 38) (z := 3) (o := 62) (tg := 68) (by decide +kernel) rfl rfl (by decide) (fun _ => ?_) (fun h18 => ?_)
  · refine sim_bind fun r15 h16 => ?_
    refine sim_grd fun h17 => ?_
    refine sim_seg [(.aload_n 0, 0, 0, 0), (.getfield 7, 6, 0, 0), (.bipush 13, 0, 0, 13), (.iaload, 0, 0, 0)] [r15] (q := 75) (L' := [some (.ref a0), some (.int b1)]) (st' := [.int (gi w2 r15 13)]) (v1 := w2) (by decide +kernel) rfl ⟨⟨h1, h16⟩, ⟨(Or.inl (kin_alen h17)), (vin_J h17 (by unfold vp_in; decide))⟩, trivial⟩ ?_
    exact sim_iret (by decide +kernel) rfl rfl rfl
  refine sim_case (df := 111) (lw := 0) (hg := 5) (offs := #[38, 46, 54, 62, 70, 78]) (len := 38) (z := 4) (o := 70) (tg := 76) (by decide +kernel) rfl rfl (by decide) (fun _ => ?_) (fun h22 => ?_)
  · refine sim_bind fun r19 h20 => ?_
    refine sim_grd fun h21 => ?_
    refine sim_seg [(.aload_n 0, 0, 0, 0), (.getfield 7, 6, 0, 0), (.bipush 15, 0, 0, 15), (.iaload, 0, 0, 0)] [r19] (q := 83) (L' := [some (.ref a0), some (.int b1)]) (st' := [.int (gi w2 r19 15)]) (v1 := w2) (by decide +kernel) rfl ⟨⟨h1, h20⟩, ⟨(Or.inl (kin_alen h21)), (vin_J h21 (by unfold vp_in; decide))⟩, trivial⟩ ?_
    exact sim_iret (by decide +kernel) rfl rfl rfl
  refine sim_case (df := 111) (lw := 0) (hg := 5) (offs := #[38, 46, 54, 62, 70, 78]) (len := 38) (z := 5) (o := 78) (tg := 84) (by decide +kernel) rfl rfl (by decide) (fun _ => ?_) (fun h27 => ?_)
  · refine sim_bind fun r23 h24 => ?_
    refine sim_grd fun h25 => ?_
    refine sim_seg [(.aload_n 0, 0, 0, 0), (.getfield 7, 6, 0, 0), (.bipush 20, 0, 0, 20), (.iaload, 0, 0, 0), (.aload_n 0, 0, 0, 0), (.getfield 7, 6, 0, 0), (.bipush 19, 0, 0, 19), (.iaload, 0, 0, 0)] [r23, r23] (q := 98) (L' := [some (.ref a0), some (.int b1)]) (st' := [.int (gi w2 r23 19), .int (gi w2 r23 20)]) (v1 := w2) (by decide +kernel) rfl ⟨⟨h1, h24⟩, ⟨(Or.inl (kin_alen h25)), (vin_J h25 (by unfold vp_in; decide))⟩, ⟨h1, h24⟩, ⟨(Or.inl (kin_alen h25)), (vin_J h25 (by unfold vp_in; decide))⟩, trivial⟩ ?_
    refine sim_ne (o := 7) (tg := 105) (f := 101) (by decide +kernel) rfl rfl (fun _ => ?_) (fun _ => ?_)
    · refine sim_seg [(.iconst (-1), 0, 0, (-1)), (.goto 14, 0, 0, 0)] [] (q := 116) (L' := [some (.ref a0), some (.int b1)]) (st' := [.int (J (-1))]) (v1 := w2) (by decide +kernel) rfl trivial ?_
      exact sim_iret (by decide +kernel) rfl rfl rfl
    · refine sim_seg [(.aload_n 0, 0, 0, 0), (.aload_n 0, 0, 0, 0), (.getfield 7, 6, 0, 0), (.bipush 20, 0, 0, 20), (.iaload, 0, 0, 0)] [r23] (q := 113) (L' := [some (.ref a0), some (.int b1)]) (st' := [.int (gi w2 r23 20), .ref a0]) (v1 := w2) (by decide +kernel) rfl ⟨⟨h1, h24⟩, ⟨(Or.inl (kin_alen h25)), (vin_J h25 (by unfold vp_in; decide))⟩, trivial⟩ ?_
      refine sc_ri (pc3 := 116) (cf_V (idx := 56) (ci := 6) [.int (gi w2 r23 20)] m_gm_segmentTime (by decide) ⟨by decide, by decide⟩ (List.mem_of_getElem? (i := 1803) (by decide +kernel)) rfl (Nat.le_of_ble_eq_true rfl) h1 (by decide +kernel) (Nat.le_of_ble_eq_true rfl) rfl) (ok_gm_segmentTime a0 (gi w2 r23 20) S w2) rfl (fun x26 => ?_)
      exact sim_iret (by decide +kernel) rfl rfl rfl
  refine sim_tdef (df := 111) (lw := 0) (hg := 5) (offs := #[38, 46, 54, 62, 70, 78]) (len := 38) (tg := 117) (by decide +kernel) rfl (by have eh6 := ne_J h6 (by decide) (by decide); have eh10 := ne_J h10 (by decide) (by decide); have eh14 := ne_J h14 (by decide) (by decide); have eh18 := ne_J h18 (by decide) (by decide); have eh22 := ne_J h22 (by decide) (by decide); have eh27 := ne_J h27 (by decide) (by decide); omega) ?_
  refine sim_seg [(.aload_n 0, 0, 0, 0), (.iconst 1, 0, 0, 1), (.putfield 38, 6, 10, 0), (.iconst 0, 0, 0, 0)] [] (q := 123) (L' := [some (.ref a0), some (.int b1)]) (st' := [.int (J 0)]) (v1 := (si w2 a0 10 (J 1))) (by decide +kernel) rfl ⟨h1, trivial⟩ ?_
  refine sim_lt (x := (si w2 a0 10 (J 1))) ?_
  generalize (si w2 a0 10 (J 1)) = w28
  exact sim_iret (by decide +kernel) rfl rfl rfl
def B_gm_segment : bd := (⟨"GateCounterModel", "segment", "(II)I"⟩, prog_8_method_64_code, 3, (some .int), [], 6, 1)
theorem m_gm_segment : mV B_gm_segment 6 2 := ⟨⟨⟨by decide +kernel, Or.inl rfl⟩, rfl, (List.mem_of_getElem? (i := 1838) (by decide +kernel)), by decide +kernel, (List.mem_of_getElem? (i := 104) (by decide +kernel)), ⟨by decide, by decide⟩, by decide⟩, rfl, (by unfold nar; decide +kernel), (List.mem_of_getElem? (i := 1836) (by decide +kernel)), rfl, (List.mem_of_getElem? (i := 1837) (by decide +kernel))⟩
noncomputable def K_gm_segment_50  (S : shp) (v : vl) (p0 : Nat) (p1 : Int32) (p2 : Int32) (s0 : Nat) (s1 : Int32) : Option (Int32 × vl) :=
  grd (kin S s0 = some (0, 6)) <| (F_gm_fails s0 s1 (J 2) S v).bind fun (x12, w13) => (if x12 = (J 0) then grd (kin S p0 = some (0, 6)) <| (gr S p0 0).bind fun r15 => grd (kin S r15 = some (1, 199)) <| grd (vp_in (((J 23) + ((J 2) * p1)) + p2) (alen S r15)) <| lt (gi w13 r15 (Int32.toNatClampNeg (((J 23) + ((J 2) * p1)) + p2))) fun x19 => some ((x19, w13)) else some (((J 0), w13)))
theorem sK_gm_segment_50   (S : shp) (v : vl) (p0 : Nat) (p1 : Int32) (p2 : Int32) (s0 : Nat) (s1 : Int32) : SimK B_gm_segment 50 [some (.ref p0), some (.int p1), some (.int p2)] [.int s1, .ref s0] S v (K_gm_segment_50   S v p0 p1 p2 s0 s1) (ρpi S) := by
  unfold K_gm_segment_50
  refine sim_seg [(.iconst 2, 0, 0, 2)] [] (q := 51) (L' := [some (.ref p0), some (.int p1), some (.int p2)]) (st' := [.int (J 2), .int s1, .ref s0]) (v1 := v) (by decide +kernel) rfl trivial ?_
  refine sim_grd fun h11 => ?_
  refine sc_pi (pc3 := 54) (cf_V (idx := 279) (ci := 6) [.int s1, .int (J 2)] m_gm_fails (by decide) ⟨by decide, by decide⟩ (List.mem_of_getElem? (i := 1827) (by decide +kernel)) rfl (Nat.le_of_ble_eq_true rfl) h11 (by decide +kernel) (Nat.le_of_ble_eq_true rfl) rfl) (ok_gm_fails s0 s1 (J 2) S v) rfl (fun x12 w13 => ?_)
  refine sim_eq0 (o := 5) (tg := 59) (f := 57) (by decide +kernel) rfl rfl (fun _ => ?_) (fun _ => ?_)
  · refine sim_grd fun h14 => ?_
    refine sim_bind fun r15 h16 => ?_
    refine sim_grd fun h17 => ?_
    refine sim_grd fun h18 => ?_
    refine sim_seg [(.aload_n 0, 0, 0, 0), (.getfield 7, 6, 0, 0), (.bipush 23, 0, 0, 23), (.iconst 2, 0, 0, 2), (.iload_n 1, 0, 0, 0), (.imul, 0, 0, 0), (.iadd, 0, 0, 0), (.iload_n 2, 0, 0, 0), (.iadd, 0, 0, 0), (.iaload, 0, 0, 0)] [r15] (q := 72) (L' := [some (.ref p0), some (.int p1), some (.int p2)]) (st' := [.int (gi w13 r15 (Int32.toNatClampNeg (((J 23) + ((J 2) * p1)) + p2)))]) (v1 := w13) (by decide +kernel) rfl ⟨⟨h14, h16⟩, ⟨(Or.inl (kin_alen h17)), h18⟩, trivial⟩ ?_
    refine sim_nm (gi w13 r15 (Int32.toNatClampNeg (((J 23) + ((J 2) * p1)) + p2))) (fun x19 => [some (.ref p0), some (.int p1), some (.int p2)]) (fun x19 => [.int x19]) (fun x19 => ?_) rfl rfl
    exact sim_iret (by decide +kernel) rfl rfl rfl
  · refine sim_seg [(.iconst 0, 0, 0, 0)] [] (q := 58) (L' := [some (.ref p0), some (.int p1), some (.int p2)]) (st' := [.int (J 0)]) (v1 := w13) (by decide +kernel) rfl trivial ?_
    exact sim_iret (by decide +kernel) rfl rfl rfl
noncomputable def K_gm_segment_28  (S : shp) (v : vl) (p0 : Nat) (p1 : Int32) (p2 : Int32) (s0 : Nat) (s1 : Int32) : Option (Int32 × vl) :=
  grd (kin S s0 = some (0, 6)) <| (F_gm_fails s0 s1 (J 1) S v).bind fun (x8, w9) => (if x8 = (J 0) then (F_gm_inRange p2 (J 0) (J 1) S w9).bind fun x10 => (if x10 = (J 0) then K_gm_segment_50  S w9 p0 p1 p2 p0 (J 1) else K_gm_segment_50  S w9 p0 p1 p2 p0 (J 0)) else some (((J 0), w9)))
theorem sK_gm_segment_28   (S : shp) (v : vl) (p0 : Nat) (p1 : Int32) (p2 : Int32) (s0 : Nat) (s1 : Int32) : SimK B_gm_segment 28 [some (.ref p0), some (.int p1), some (.int p2)] [.int s1, .ref s0] S v (K_gm_segment_28   S v p0 p1 p2 s0 s1) (ρpi S) := by
  unfold K_gm_segment_28
  refine sim_seg [(.iconst 1, 0, 0, 1)] [] (q := 29) (L' := [some (.ref p0), some (.int p1), some (.int p2)]) (st' := [.int (J 1), .int s1, .ref s0]) (v1 := v) (by decide +kernel) rfl trivial ?_
  refine sim_grd fun h7 => ?_
  refine sc_pi (pc3 := 32) (cf_V (idx := 279) (ci := 6) [.int s1, .int (J 1)] m_gm_fails (by decide) ⟨by decide, by decide⟩ (List.mem_of_getElem? (i := 1827) (by decide +kernel)) rfl (Nat.le_of_ble_eq_true rfl) h7 (by decide +kernel) (Nat.le_of_ble_eq_true rfl) rfl) (ok_gm_fails s0 s1 (J 1) S v) rfl (fun x8 w9 => ?_)
  refine sim_ne0 (o := 25) (tg := 57) (f := 35) (by decide +kernel) rfl rfl (fun _ => ?_) (fun _ => ?_)
  · refine sim_seg [(.aload_n 0, 0, 0, 0), (.iload_n 2, 0, 0, 0), (.iconst 0, 0, 0, 0), (.iconst 1, 0, 0, 1)] [] (q := 39) (L' := [some (.ref p0), some (.int p1), some (.int p2)]) (st' := [.int (J 1), .int (J 0), .int p2, .ref p0]) (v1 := w9) (by decide +kernel) rfl trivial ?_
    refine sc_ri (pc3 := 42) (cf_S (idx := 41) [.int p2, .int (J 0), .int (J 1)] m_gm_inRange ⟨by decide, by decide⟩ (List.mem_of_getElem? (i := 1712) (by decide +kernel)) rfl (Nat.le_of_ble_eq_true rfl) (by decide +kernel) (Nat.le_of_ble_eq_true rfl) rfl) (ok_gm_inRange p2 (J 0) (J 1) S w9) rfl (fun x10 => ?_)
    refine sim_ne0 (o := 7) (tg := 49) (f := 45) (by decide +kernel) rfl rfl (fun _ => ?_) (fun _ => ?_)
    · refine sim_seg [(.iconst 1, 0, 0, 1), (.goto 4, 0, 0, 0)] [] (q := 50) (L' := [some (.ref p0), some (.int p1), some (.int p2)]) (st' := [.int (J 1), .ref p0]) (v1 := w9) (by decide +kernel) rfl trivial ?_
      exact sK_gm_segment_50 S w9 p0 p1 p2 p0 (J 1)
    · refine sim_seg [(.iconst 0, 0, 0, 0)] [] (q := 50) (L' := [some (.ref p0), some (.int p1), some (.int p2)]) (st' := [.int (J 0), .ref p0]) (v1 := w9) (by decide +kernel) rfl trivial ?_
      exact sK_gm_segment_50 S w9 p0 p1 p2 p0 (J 0)
  · refine sim_seg [(.iconst 0, 0, 0, 0)] [] (q := 58) (L' := [some (.ref p0), some (.int p1), some (.int p2)]) (st' := [.int (J 0)]) (v1 := w9) (by decide +kernel) rfl trivial ?_
    exact sim_iret (by decide +kernel) rfl rfl rfl
noncomputable def F_gm_segment (a0 : Nat) (b1 : Int32) (b2 : Int32) (S : shp) (v : vl) : Option (Int32 × vl) :=
  grd (kin S a0 = some (0, 6)) <| lt (si v a0 10 (J 0)) fun w2 => (gr S a0 0).bind fun r3 => grd (kin S r3 = some (1, 199)) <| (F_gm_inRange b1 (J 0) ((gi w2 r3 19) - (J 1)) S w2).bind fun x6 => (if x6 = (J 0) then K_gm_segment_28  S w2 a0 b1 b2 a0 (J 1) else K_gm_segment_28  S w2 a0 b1 b2 a0 (J 0))
theorem ok_gm_segment (a0 : Nat) (b1 : Int32) (b2 : Int32) (S : shp) (v : vl) : SimK B_gm_segment 0 (entB (bN B_gm_segment) [.ref a0, .int b1, .int b2]) [] S v (F_gm_segment a0 b1 b2 S v) (ρpi S) := by
  show SimK B_gm_segment 0 [some (.ref a0), some (.int b1), some (.int b2)] [] S v (F_gm_segment a0 b1 b2 S v) _
  unfold F_gm_segment
  refine sim_grd fun h1 => ?_
  refine sim_seg [(.aload_n 0, 0, 0, 0), (.iconst 0, 0, 0, 0), (.putfield 38, 6, 10, 0), (.aload_n 0, 0, 0, 0), (.iload_n 1, 0, 0, 0), (.iconst 0, 0, 0, 0), (.aload_n 0, 0, 0, 0)] [] (q := 9) (L' := [some (.ref a0), some (.int b1), some (.int b2)]) (st' := [.ref a0, .int (J 0), .int b1, .ref a0]) (v1 := (si v a0 10 (J 0))) (by decide +kernel) rfl ⟨h1, trivial⟩ ?_
  refine sim_lt (x := (si v a0 10 (J 0))) ?_
  generalize (si v a0 10 (J 0)) = w2
  refine sim_bind fun r3 h4 => ?_
  refine sim_grd fun h5 => ?_
  refine sim_seg [(.getfield 7, 6, 0, 0), (.bipush 19, 0, 0, 19), (.iaload, 0, 0, 0), (.iconst 1, 0, 0, 1), (.isub, 0, 0, 0)] [r3] (q := 17) (L' := [some (.ref a0), some (.int b1), some (.int b2)]) (st' := [.int ((gi w2 r3 19) - (J 1)), .int (J 0), .int b1, .ref a0]) (v1 := w2) (by decide +kernel) rfl ⟨⟨h1, h4⟩, ⟨(Or.inl (kin_alen h5)), (vin_J h5 (by unfold vp_in; decide))⟩, trivial⟩ ?_
  refine sc_ri (pc3 := 20) (cf_S (idx := 41) [.int b1, .int (J 0), .int ((gi w2 r3 19) - (J 1))] m_gm_inRange ⟨by decide, by decide⟩ (List.mem_of_getElem? (i := 1712) (by decide +kernel)) rfl (Nat.le_of_ble_eq_true rfl) (by decide +kernel) (Nat.le_of_ble_eq_true rfl) rfl) (ok_gm_inRange b1 (J 0) ((gi w2 r3 19) - (J 1)) S w2) rfl (fun x6 => ?_)
  refine sim_ne0 (o := 7) (tg := 27) (f := 23) (by decide +kernel) rfl rfl (fun _ => ?_) (fun _ => ?_)
  · refine sim_seg [(.iconst 1, 0, 0, 1), (.goto 4, 0, 0, 0)] [] (q := 28) (L' := [some (.ref a0), some (.int b1), some (.int b2)]) (st' := [.int (J 1), .ref a0]) (v1 := w2) (by decide +kernel) rfl trivial ?_
    exact sK_gm_segment_28 S w2 a0 b1 b2 a0 (J 1)
  · refine sim_seg [(.iconst 0, 0, 0, 0)] [] (q := 28) (L' := [some (.ref a0), some (.int b1), some (.int b2)]) (st' := [.int (J 0), .ref a0]) (v1 := w2) (by decide +kernel) rfl trivial ?_
    exact sK_gm_segment_28 S w2 a0 b1 b2 a0 (J 0)
def B_gm_noMeasurement : bd := (⟨"GateCounterModel", "noMeasurement", "(I)Z"⟩, prog_8_method_65_code, 2, (some .boolean), [], 6, 1)
theorem m_gm_noMeasurement : mV B_gm_noMeasurement 6 1 := ⟨⟨⟨by decide +kernel, Or.inl rfl⟩, rfl, (List.mem_of_getElem? (i := 1846) (by decide +kernel)), by decide +kernel, (List.mem_of_getElem? (i := 104) (by decide +kernel)), ⟨by decide, by decide⟩, by decide⟩, rfl, (by unfold nar; decide +kernel), (List.mem_of_getElem? (i := 1845) (by decide +kernel)), rfl, (List.mem_of_getElem? (i := 54) (by decide +kernel))⟩
noncomputable def F_gm_noMeasurement (a0 : Nat) (b1 : Int32) (S : shp) (v : vl) : Option (Int32 × vl) :=
  grd (kin S a0 = some (0, 6)) <| (gr S a0 0).bind fun r2 => grd (kin S r2 = some (1, 199)) <| (F_gm_inRange b1 (J 0) ((gi v r2 22) - (J 1)) S v).bind fun x5 => (if x5 = (J 0) then (F_gm_fails a0 (J 1) (J 1) S v).bind fun (x6, w7) => grd (narrow .boolean (.int x6) = .int x6) <| some ((x6, w7)) else (F_gm_fails a0 (J 0) (J 1) S v).bind fun (x9, w10) => grd (narrow .boolean (.int x9) = .int x9) <| some ((x9, w10)))
theorem ok_gm_noMeasurement (a0 : Nat) (b1 : Int32) (S : shp) (v : vl) : SimK B_gm_noMeasurement 0 (entB (bN B_gm_noMeasurement) [.ref a0, .int b1]) [] S v (F_gm_noMeasurement a0 b1 S v) (ρpi S) := by
  show SimK B_gm_noMeasurement 0 [some (.ref a0), some (.int b1)] [] S v (F_gm_noMeasurement a0 b1 S v) _
  unfold F_gm_noMeasurement
  refine sim_grd fun h1 => ?_
  refine sim_bind fun r2 h3 => ?_
  refine sim_grd fun h4 => ?_
  refine sim_seg [(.aload_n 0, 0, 0, 0), (.iload_n 1, 0, 0, 0), (.iconst 0, 0, 0, 0), (.aload_n 0, 0, 0, 0), (.getfield 7, 6, 0, 0), (.bipush 22, 0, 0, 22), (.iaload, 0, 0, 0), (.iconst 1, 0, 0, 1), (.isub, 0, 0, 0)] [r2] (q := 12) (L' := [some (.ref a0), some (.int b1)]) (st' := [.int ((gi v r2 22) - (J 1)), .int (J 0), .int b1, .ref a0]) (v1 := v) (by decide +kernel) rfl ⟨⟨h1, h3⟩, ⟨(Or.inl (kin_alen h4)), (vin_J h4 (by unfold vp_in; decide))⟩, trivial⟩ ?_
  refine sc_ri (pc3 := 15) (cf_S (idx := 41) [.int b1, .int (J 0), .int ((gi v r2 22) - (J 1))] m_gm_inRange ⟨by decide, by decide⟩ (List.mem_of_getElem? (i := 1712) (by decide +kernel)) rfl (Nat.le_of_ble_eq_true rfl) (by decide +kernel) (Nat.le_of_ble_eq_true rfl) rfl) (ok_gm_inRange b1 (J 0) ((gi v r2 22) - (J 1)) S v) rfl (fun x5 => ?_)
  refine sim_ne0 (o := 7) (tg := 22) (f := 18) (by decide +kernel) rfl rfl (fun _ => ?_) (fun _ => ?_)
  · refine sim_seg [(.iconst 1, 0, 0, 1), (.goto 4, 0, 0, 0), (.iconst 1, 0, 0, 1)] [] (q := 24) (L' := [some (.ref a0), some (.int b1)]) (st' := [.int (J 1), .int (J 1), .ref a0]) (v1 := v) (by decide +kernel) rfl trivial ?_
    refine sc_pi (pc3 := 27) (cf_V (idx := 279) (ci := 6) [.int (J 1), .int (J 1)] m_gm_fails (by decide) ⟨by decide, by decide⟩ (List.mem_of_getElem? (i := 1827) (by decide +kernel)) rfl (Nat.le_of_ble_eq_true rfl) h1 (by decide +kernel) (Nat.le_of_ble_eq_true rfl) rfl) (ok_gm_fails a0 (J 1) (J 1) S v) rfl (fun x6 w7 => ?_)
    refine sim_grd fun h8 => ?_
    exact sim_iret (by decide +kernel) rfl h8 rfl
  · refine sim_seg [(.iconst 0, 0, 0, 0), (.iconst 1, 0, 0, 1)] [] (q := 24) (L' := [some (.ref a0), some (.int b1)]) (st' := [.int (J 1), .int (J 0), .ref a0]) (v1 := v) (by decide +kernel) rfl trivial ?_
    refine sc_pi (pc3 := 27) (cf_V (idx := 279) (ci := 6) [.int (J 0), .int (J 1)] m_gm_fails (by decide) ⟨by decide, by decide⟩ (List.mem_of_getElem? (i := 1827) (by decide +kernel)) rfl (Nat.le_of_ble_eq_true rfl) h1 (by decide +kernel) (Nat.le_of_ble_eq_true rfl) rfl) (ok_gm_fails a0 (J 0) (J 1) S v) rfl (fun x9 w10 => ?_)
    refine sim_grd fun h11 => ?_
    exact sim_iret (by decide +kernel) rfl h11 rfl
def B_gm_at : bd := (⟨"GateCounterModel", "at", "(I)I"⟩, prog_8_method_33_code, 2, (some .int), [], 6, 0)
theorem m_gm_at : mV B_gm_at 6 1 := ⟨⟨⟨by decide +kernel, Or.inl rfl⟩, rfl, (List.mem_of_getElem? (i := 1854) (by decide +kernel)), by decide +kernel, (List.mem_of_getElem? (i := 104) (by decide +kernel)), ⟨by decide, by decide⟩, by decide⟩, rfl, (by unfold nar; decide +kernel), (List.mem_of_getElem? (i := 1853) (by decide +kernel)), rfl, (List.mem_of_getElem? (i := 56) (by decide +kernel))⟩
noncomputable def F_gm_at (a0 : Nat) (b1 : Int32) (S : shp) (v : vl) : Option Int32 :=
  some (((J 39) + ((J 8) * b1)))
theorem ok_gm_at (a0 : Nat) (b1 : Int32) (S : shp) (v : vl) : SimK B_gm_at 0 (entB (bN B_gm_at) [.ref a0, .int b1]) [] S v (F_gm_at a0 b1 S v) (ρri S v) := by
  show SimK B_gm_at 0 [some (.ref a0), some (.int b1)] [] S v (F_gm_at a0 b1 S v) _
  unfold F_gm_at
  refine sim_seg [(.bipush 39, 0, 0, 39), (.bipush 8, 0, 0, 8), (.iload_n 1, 0, 0, 0), (.imul, 0, 0, 0), (.iadd, 0, 0, 0)] [] (q := 7) (L' := [some (.ref a0), some (.int b1)]) (st' := [.int ((J 39) + ((J 8) * b1))]) (v1 := v) (by decide +kernel) rfl trivial ?_
  exact sim_iret (by decide +kernel) rfl rfl rfl
def B_gm_of : bd := (⟨"GateCounterModel", "of", "(II)I"⟩, prog_8_method_34_code, 3, (some .int), [], 6, 1)
theorem m_gm_of : mV B_gm_of 6 2 := ⟨⟨⟨by decide +kernel, Or.inl rfl⟩, rfl, (List.mem_of_getElem? (i := 1850) (by decide +kernel)), by decide +kernel, (List.mem_of_getElem? (i := 104) (by decide +kernel)), ⟨by decide, by decide⟩, by decide⟩, rfl, (by unfold nar; decide +kernel), (List.mem_of_getElem? (i := 1849) (by decide +kernel)), rfl, (List.mem_of_getElem? (i := 55) (by decide +kernel))⟩
noncomputable def F_gm_of (a0 : Nat) (b1 : Int32) (b2 : Int32) (S : shp) (v : vl) : Option Int32 :=
  grd (kin S a0 = some (0, 6)) <| (gr S a0 0).bind fun r2 => (F_gm_at a0 b1 S v).bind fun x4 => grd (kin S r2 = some (1, 199)) <| grd (vp_in (x4 + b2) (alen S r2)) <| some ((gi v r2 (Int32.toNatClampNeg (x4 + b2))))
theorem ok_gm_of (a0 : Nat) (b1 : Int32) (b2 : Int32) (S : shp) (v : vl) : SimK B_gm_of 0 (entB (bN B_gm_of) [.ref a0, .int b1, .int b2]) [] S v (F_gm_of a0 b1 b2 S v) (ρri S v) := by
  show SimK B_gm_of 0 [some (.ref a0), some (.int b1), some (.int b2)] [] S v (F_gm_of a0 b1 b2 S v) _
  unfold F_gm_of
  refine sim_grd fun h1 => ?_
  refine sim_bind fun r2 h3 => ?_
  refine sim_seg [(.aload_n 0, 0, 0, 0), (.getfield 7, 6, 0, 0), (.aload_n 0, 0, 0, 0), (.iload_n 1, 0, 0, 0)] [r2] (q := 6) (L' := [some (.ref a0), some (.int b1), some (.int b2)]) (st' := [.int b1, .ref a0, .ref r2]) (v1 := v) (by decide +kernel) rfl ⟨⟨h1, h3⟩, trivial⟩ ?_
  refine sc_ri (pc3 := 9) (cf_V (idx := 148) (ci := 6) [.int b1] m_gm_at (by decide) ⟨by decide, by decide⟩ (List.mem_of_getElem? (i := 1851) (by decide +kernel)) rfl (Nat.le_of_ble_eq_true rfl) h1 (by decide +kernel) (Nat.le_of_ble_eq_true rfl) rfl) (ok_gm_at a0 b1 S v) rfl (fun x4 => ?_)
  refine sim_grd fun h5 => ?_
  refine sim_grd fun h6 => ?_
  refine sim_seg [(.iload_n 2, 0, 0, 0), (.iadd, 0, 0, 0), (.iaload, 0, 0, 0)] [] (q := 12) (L' := [some (.ref a0), some (.int b1), some (.int b2)]) (st' := [.int (gi v r2 (Int32.toNatClampNeg (x4 + b2)))]) (v1 := v) (by decide +kernel) rfl ⟨⟨(Or.inl (kin_alen h5)), h6⟩, trivial⟩ ?_
  exact sim_iret (by decide +kernel) rfl rfl rfl
def B_gm_measurement : bd := (⟨"GateCounterModel", "measurement", "(II)I"⟩, prog_8_method_66_code, 3, (some .int), [], 6, 2)
theorem m_gm_measurement : mV B_gm_measurement 6 2 := ⟨⟨⟨by decide +kernel, Or.inl rfl⟩, rfl, (List.mem_of_getElem? (i := 1842) (by decide +kernel)), by decide +kernel, (List.mem_of_getElem? (i := 104) (by decide +kernel)), ⟨by decide, by decide⟩, by decide⟩, rfl, (by unfold nar; decide +kernel), (List.mem_of_getElem? (i := 1840) (by decide +kernel)), rfl, (List.mem_of_getElem? (i := 1841) (by decide +kernel))⟩
noncomputable def K_gm_measurement_29  (S : shp) (v : vl) (p0 : Nat) (p1 : Int32) (p2 : Int32) (s0 : Nat) (s1 : Int32) : Option (Int32 × vl) :=
  grd (kin S s0 = some (0, 6)) <| (F_gm_fails s0 s1 (J 2) S v).bind fun (x7, w8) => (if x7 = (J 0) then grd (kin S p0 = some (0, 6)) <| (F_gm_of p0 p1 p2 S w8).bind fun x10 => some ((x10, w8)) else some (((J 0), w8)))
theorem sK_gm_measurement_29   (S : shp) (v : vl) (p0 : Nat) (p1 : Int32) (p2 : Int32) (s0 : Nat) (s1 : Int32) : SimK B_gm_measurement 29 [some (.ref p0), some (.int p1), some (.int p2)] [.int s1, .ref s0] S v (K_gm_measurement_29   S v p0 p1 p2 s0 s1) (ρpi S) := by
  unfold K_gm_measurement_29
  refine sim_seg [(.iconst 2, 0, 0, 2)] [] (q := 30) (L' := [some (.ref p0), some (.int p1), some (.int p2)]) (st' := [.int (J 2), .int s1, .ref s0]) (v1 := v) (by decide +kernel) rfl trivial ?_
  refine sim_grd fun h6 => ?_
  refine sc_pi (pc3 := 33) (cf_V (idx := 279) (ci := 6) [.int s1, .int (J 2)] m_gm_fails (by decide) ⟨by decide, by decide⟩ (List.mem_of_getElem? (i := 1827) (by decide +kernel)) rfl (Nat.le_of_ble_eq_true rfl) h6 (by decide +kernel) (Nat.le_of_ble_eq_true rfl) rfl) (ok_gm_fails s0 s1 (J 2) S v) rfl (fun x7 w8 => ?_)
  refine sim_eq0 (o := 7) (tg := 40) (f := 36) (by decide +kernel) rfl rfl (fun _ => ?_) (fun _ => ?_)
  · refine sim_seg [(.aload_n 0, 0, 0, 0), (.iload_n 1, 0, 0, 0), (.iload_n 2, 0, 0, 0)] [] (q := 43) (L' := [some (.ref p0), some (.int p1), some (.int p2)]) (st' := [.int p2, .int p1, .ref p0]) (v1 := w8) (by decide +kernel) rfl trivial ?_
    refine sim_grd fun h9 => ?_
    refine sc_ri (pc3 := 46) (cf_V (idx := 155) (ci := 6) [.int p1, .int p2] m_gm_of (by decide) ⟨by decide, by decide⟩ (List.mem_of_getElem? (i := 1847) (by decide +kernel)) rfl (Nat.le_of_ble_eq_true rfl) h9 (by decide +kernel) (Nat.le_of_ble_eq_true rfl) rfl) (ok_gm_of p0 p1 p2 S w8) rfl (fun x10 => ?_)
    exact sim_iret (by decide +kernel) rfl rfl rfl
  · refine sim_seg [(.iconst 0, 0, 0, 0), (.goto 9, 0, 0, 0)] [] (q := 46) (L' := [some (.ref p0), some (.int p1), some (.int p2)]) (st' := [.int (J 0)]) (v1 := w8) (by decide +kernel) rfl trivial ?_
    exact sim_iret (by decide +kernel) rfl rfl rfl
noncomputable def F_gm_measurement (a0 : Nat) (b1 : Int32) (b2 : Int32) (S : shp) (v : vl) : Option (Int32 × vl) :=
  grd (kin S a0 = some (0, 6)) <| lt (si v a0 10 (J 0)) fun w2 => (F_gm_noMeasurement a0 b1 S w2).bind fun (x3, w4) => (if x3 = (J 0) then (F_gm_inRange b2 (J 0) (J 7) S w4).bind fun x5 => (if x5 = (J 0) then K_gm_measurement_29  S w4 a0 b1 b2 a0 (J 1) else K_gm_measurement_29  S w4 a0 b1 b2 a0 (J 0)) else some (((J 0), w4)))
theorem ok_gm_measurement (a0 : Nat) (b1 : Int32) (b2 : Int32) (S : shp) (v : vl) : SimK B_gm_measurement 0 (entB (bN B_gm_measurement) [.ref a0, .int b1, .int b2]) [] S v (F_gm_measurement a0 b1 b2 S v) (ρpi S) := by
  show SimK B_gm_measurement 0 [some (.ref a0), some (.int b1), some (.int b2)] [] S v (F_gm_measurement a0 b1 b2 S v) _
  unfold F_gm_measurement
  refine sim_grd fun h1 => ?_
  refine sim_seg [(.aload_n 0, 0, 0, 0), (.iconst 0, 0, 0, 0), (.putfield 38, 6, 10, 0), (.aload_n 0, 0, 0, 0), (.iload_n 1, 0, 0, 0)] [] (q := 7) (L' := [some (.ref a0), some (.int b1), some (.int b2)]) (st' := [.int b1, .ref a0]) (v1 := (si v a0 10 (J 0))) (by decide +kernel) rfl ⟨h1, trivial⟩ ?_
  refine sim_lt (x := (si v a0 10 (J 0))) ?_
  generalize (si v a0 10 (J 0)) = w2
  refine sc_pi (pc3 := 10) (cf_V (idx := 283) (ci := 6) [.int b1] m_gm_noMeasurement (by decide) ⟨by decide, by decide⟩ (List.mem_of_getElem? (i := 1843) (by decide +kernel)) rfl (Nat.le_of_ble_eq_true rfl) h1 (by decide +kernel) (Nat.le_of_ble_eq_true rfl) rfl) (ok_gm_noMeasurement a0 b1 S w2) rfl (fun x3 w4 => ?_)
  refine sim_ne0 (o := 26) (tg := 36) (f := 13) (by decide +kernel) rfl rfl (fun _ => ?_) (fun _ => ?_)
  · refine sim_seg [(.aload_n 0, 0, 0, 0), (.iload_n 2, 0, 0, 0), (.iconst 0, 0, 0, 0), (.bipush 7, 0, 0, 7)] [] (q := 18) (L' := [some (.ref a0), some (.int b1), some (.int b2)]) (st' := [.int (J 7), .int (J 0), .int b2, .ref a0]) (v1 := w4) (by decide +kernel) rfl trivial ?_
    refine sc_ri (pc3 := 21) (cf_S (idx := 41) [.int b2, .int (J 0), .int (J 7)] m_gm_inRange ⟨by decide, by decide⟩ (List.mem_of_getElem? (i := 1712) (by decide +kernel)) rfl (Nat.le_of_ble_eq_true rfl) (by decide +kernel) (Nat.le_of_ble_eq_true rfl) rfl) (ok_gm_inRange b2 (J 0) (J 7) S w4) rfl (fun x5 => ?_)
    refine sim_ne0 (o := 7) (tg := 28) (f := 24) (by decide +kernel) rfl rfl (fun _ => ?_) (fun _ => ?_)
    · refine sim_seg [(.iconst 1, 0, 0, 1), (.goto 4, 0, 0, 0)] [] (q := 29) (L' := [some (.ref a0), some (.int b1), some (.int b2)]) (st' := [.int (J 1), .ref a0]) (v1 := w4) (by decide +kernel) rfl trivial ?_
      exact sK_gm_measurement_29 S w4 a0 b1 b2 a0 (J 1)
    · refine sim_seg [(.iconst 0, 0, 0, 0)] [] (q := 29) (L' := [some (.ref a0), some (.int b1), some (.int b2)]) (st' := [.int (J 0), .ref a0]) (v1 := w4) (by decide +kernel) rfl trivial ?_
      exact sK_gm_measurement_29 S w4 a0 b1 b2 a0 (J 0)
  · refine sim_seg [(.iconst 0, 0, 0, 0), (.goto 9, 0, 0, 0)] [] (q := 46) (L' := [some (.ref a0), some (.int b1), some (.int b2)]) (st' := [.int (J 0)]) (v1 := w4) (by decide +kernel) rfl trivial ?_
    exact sim_iret (by decide +kernel) rfl rfl rfl
def B_gm_reason : bd := (⟨"GateCounterModel", "reason", "()I"⟩, prog_8_method_67_code, 1, (some .int), [], 6, 0)
theorem m_gm_reason : mV B_gm_reason 6 0 := ⟨⟨⟨by decide +kernel, Or.inl rfl⟩, rfl, (List.mem_of_getElem? (i := 1858) (by decide +kernel)), by decide +kernel, (List.mem_of_getElem? (i := 104) (by decide +kernel)), ⟨by decide, by decide⟩, by decide⟩, rfl, (by unfold nar; decide +kernel), (List.mem_of_getElem? (i := 1856) (by decide +kernel)), rfl, (List.mem_of_getElem? (i := 1857) (by decide +kernel))⟩
noncomputable def F_gm_reason (a0 : Nat) (S : shp) (v : vl) : Option (Int32 × vl) :=
  grd (kin S a0 = some (0, 6)) <| lt (si v a0 10 (J 0)) fun w2 => some (((gi w2 a0 7), w2))
theorem ok_gm_reason (a0 : Nat) (S : shp) (v : vl) : SimK B_gm_reason 0 (entB (bN B_gm_reason) [.ref a0]) [] S v (F_gm_reason a0 S v) (ρpi S) := by
  show SimK B_gm_reason 0 [some (.ref a0)] [] S v (F_gm_reason a0 S v) _
  unfold F_gm_reason
  refine sim_grd fun h1 => ?_
  refine sim_seg [(.aload_n 0, 0, 0, 0), (.iconst 0, 0, 0, 0), (.putfield 38, 6, 10, 0), (.aload_n 0, 0, 0, 0)] [] (q := 6) (L' := [some (.ref a0)]) (st' := [.ref a0]) (v1 := (si v a0 10 (J 0))) (by decide +kernel) rfl ⟨h1, trivial⟩ ?_
  refine sim_lt (x := (si v a0 10 (J 0))) ?_
  generalize (si v a0 10 (J 0)) = w2
  refine sim_seg [(.getfield 286, 6, 7, 0)] [] (q := 9) (L' := [some (.ref a0)]) (st' := [.int (gi w2 a0 7)]) (v1 := w2) (by decide +kernel) rfl ⟨h1, trivial⟩ ?_
  exact sim_iret (by decide +kernel) rfl rfl rfl
def B_gm_cause : bd := (⟨"GateCounterModel", "cause", "()I"⟩, prog_8_method_68_code, 1, (some .int), [], 6, 0)
theorem m_gm_cause : mV B_gm_cause 6 0 := ⟨⟨⟨by decide +kernel, Or.inl rfl⟩, rfl, (List.mem_of_getElem? (i := 1862) (by decide +kernel)), by decide +kernel, (List.mem_of_getElem? (i := 104) (by decide +kernel)), ⟨by decide, by decide⟩, by decide⟩, rfl, (by unfold nar; decide +kernel), (List.mem_of_getElem? (i := 1860) (by decide +kernel)), rfl, (List.mem_of_getElem? (i := 1861) (by decide +kernel))⟩
noncomputable def F_gm_cause (a0 : Nat) (S : shp) (v : vl) : Option (Int32 × vl) :=
  grd (kin S a0 = some (0, 6)) <| lt (si v a0 10 (J 0)) fun w2 => some (((gi w2 a0 8), w2))
theorem ok_gm_cause (a0 : Nat) (S : shp) (v : vl) : SimK B_gm_cause 0 (entB (bN B_gm_cause) [.ref a0]) [] S v (F_gm_cause a0 S v) (ρpi S) := by
  show SimK B_gm_cause 0 [some (.ref a0)] [] S v (F_gm_cause a0 S v) _
  unfold F_gm_cause
  refine sim_grd fun h1 => ?_
  refine sim_seg [(.aload_n 0, 0, 0, 0), (.iconst 0, 0, 0, 0), (.putfield 38, 6, 10, 0), (.aload_n 0, 0, 0, 0)] [] (q := 6) (L' := [some (.ref a0)]) (st' := [.ref a0]) (v1 := (si v a0 10 (J 0))) (by decide +kernel) rfl ⟨h1, trivial⟩ ?_
  refine sim_lt (x := (si v a0 10 (J 0))) ?_
  generalize (si v a0 10 (J 0)) = w2
  refine sim_seg [(.getfield 289, 6, 8, 0)] [] (q := 9) (L' := [some (.ref a0)]) (st' := [.int (gi w2 a0 8)]) (v1 := w2) (by decide +kernel) rfl ⟨h1, trivial⟩ ?_
  exact sim_iret (by decide +kernel) rfl rfl rfl
def B_gm_chosenBy : bd := (⟨"GateCounterModel", "chosenBy", "()I"⟩, prog_8_method_69_code, 1, (some .int), [], 6, 0)
theorem m_gm_chosenBy : mV B_gm_chosenBy 6 0 := ⟨⟨⟨by decide +kernel, Or.inl rfl⟩, rfl, (List.mem_of_getElem? (i := 1866) (by decide +kernel)), by decide +kernel, (List.mem_of_getElem? (i := 104) (by decide +kernel)), ⟨by decide, by decide⟩, by decide⟩, rfl, (by unfold nar; decide +kernel), (List.mem_of_getElem? (i := 1864) (by decide +kernel)), rfl, (List.mem_of_getElem? (i := 1865) (by decide +kernel))⟩
noncomputable def F_gm_chosenBy (a0 : Nat) (S : shp) (v : vl) : Option (Int32 × vl) :=
  grd (kin S a0 = some (0, 6)) <| lt (si v a0 10 (J 0)) fun w2 => some (((gi w2 a0 9), w2))
theorem ok_gm_chosenBy (a0 : Nat) (S : shp) (v : vl) : SimK B_gm_chosenBy 0 (entB (bN B_gm_chosenBy) [.ref a0]) [] S v (F_gm_chosenBy a0 S v) (ρpi S) := by
  show SimK B_gm_chosenBy 0 [some (.ref a0)] [] S v (F_gm_chosenBy a0 S v) _
  unfold F_gm_chosenBy
  refine sim_grd fun h1 => ?_
  refine sim_seg [(.aload_n 0, 0, 0, 0), (.iconst 0, 0, 0, 0), (.putfield 38, 6, 10, 0), (.aload_n 0, 0, 0, 0)] [] (q := 6) (L' := [some (.ref a0)]) (st' := [.ref a0]) (v1 := (si v a0 10 (J 0))) (by decide +kernel) rfl ⟨h1, trivial⟩ ?_
  refine sim_lt (x := (si v a0 10 (J 0))) ?_
  generalize (si v a0 10 (J 0)) = w2
  refine sim_seg [(.getfield 292, 6, 9, 0)] [] (q := 9) (L' := [some (.ref a0)]) (st' := [.int (gi w2 a0 9)]) (v1 := w2) (by decide +kernel) rfl ⟨h1, trivial⟩ ?_
  exact sim_iret (by decide +kernel) rfl rfl rfl
def B_gm_addsUp : bd := (⟨"GateCounterModel", "addsUp", "()Z"⟩, prog_8_method_70_code, 1, (some .boolean), [], 6, 0)
theorem m_gm_addsUp : mV B_gm_addsUp 6 0 := ⟨⟨⟨by decide +kernel, Or.inl rfl⟩, rfl, (List.mem_of_getElem? (i := 1870) (by decide +kernel)), by decide +kernel, (List.mem_of_getElem? (i := 104) (by decide +kernel)), ⟨by decide, by decide⟩, by decide⟩, rfl, (by unfold nar; decide +kernel), (List.mem_of_getElem? (i := 1868) (by decide +kernel)), rfl, (List.mem_of_getElem? (i := 1869) (by decide +kernel))⟩
noncomputable def F_gm_addsUp (a0 : Nat) (S : shp) (v : vl) : Option (Int32 × vl) :=
  grd (kin S a0 = some (0, 6)) <| lt (si v a0 10 (J 0)) fun w2 => (gr S a0 0).bind fun r3 => grd (kin S r3 = some (1, 199)) <| (if (gi w2 r3 17) = (((gi w2 r3 4) * (gi w2 r3 18)) + (gi w2 r3 15)) then some (((J 1), w2)) else some (((J 0), w2)))
theorem ok_gm_addsUp (a0 : Nat) (S : shp) (v : vl) : SimK B_gm_addsUp 0 (entB (bN B_gm_addsUp) [.ref a0]) [] S v (F_gm_addsUp a0 S v) (ρpi S) := by
  show SimK B_gm_addsUp 0 [some (.ref a0)] [] S v (F_gm_addsUp a0 S v) _
  unfold F_gm_addsUp
  refine sim_grd fun h1 => ?_
  refine sim_seg [(.aload_n 0, 0, 0, 0), (.iconst 0, 0, 0, 0), (.putfield 38, 6, 10, 0), (.aload_n 0, 0, 0, 0)] [] (q := 6) (L' := [some (.ref a0)]) (st' := [.ref a0]) (v1 := (si v a0 10 (J 0))) (by decide +kernel) rfl ⟨h1, trivial⟩ ?_
  refine sim_lt (x := (si v a0 10 (J 0))) ?_
  generalize (si v a0 10 (J 0)) = w2
  refine sim_bind fun r3 h4 => ?_
  refine sim_grd fun h5 => ?_
  refine sim_seg [(.getfield 7, 6, 0, 0), (.bipush 17, 0, 0, 17), (.iaload, 0, 0, 0), (.aload_n 0, 0, 0, 0), (.getfield 7, 6, 0, 0), (.iconst 4, 0, 0, 4), (.iaload, 0, 0, 0), (.aload_n 0, 0, 0, 0), (.getfield 7, 6, 0, 0), (.bipush 18, 0, 0, 18), (.iaload, 0, 0, 0), (.imul, 0, 0, 0)] [r3, r3, r3] (q := 26) (L' := [some (.ref a0)]) (st' := [.int ((gi w2 r3 4) * (gi w2 r3 18)), .int (gi w2 r3 17)]) (v1 := w2) (by decide +kernel) rfl ⟨⟨h1, h4⟩, ⟨(Or.inl (kin_alen h5)), (vin_J h5 (by unfold vp_in; decide))⟩, ⟨h1, h4⟩, ⟨(Or.inl (kin_alen h5)), (vin_J h5 (by unfold vp_in; decide))⟩, ⟨h1, h4⟩, ⟨(Or.inl (kin_alen h5)), (vin_J h5 (by unfold vp_in; decide))⟩, trivial⟩ ?_
  refine sim_seg [(.aload_n 0, 0, 0, 0), (.getfield 7, 6, 0, 0), (.bipush 15, 0, 0, 15), (.iaload, 0, 0, 0), (.iadd, 0, 0, 0)] [r3] (q := 34) (L' := [some (.ref a0)]) (st' := [.int (((gi w2 r3 4) * (gi w2 r3 18)) + (gi w2 r3 15)), .int (gi w2 r3 17)]) (v1 := w2) (by decide +kernel) rfl ⟨⟨h1, h4⟩, ⟨(Or.inl (kin_alen h5)), (vin_J h5 (by unfold vp_in; decide))⟩, trivial⟩ ?_
  refine sim_ne (o := 7) (tg := 41) (f := 37) (by decide +kernel) rfl rfl (fun _ => ?_) (fun _ => ?_)
  · refine sim_seg [(.iconst 1, 0, 0, 1), (.goto 4, 0, 0, 0)] [] (q := 42) (L' := [some (.ref a0)]) (st' := [.int (J 1)]) (v1 := w2) (by decide +kernel) rfl trivial ?_
    exact sim_iret (by decide +kernel) rfl (by decide) rfl
  · refine sim_seg [(.iconst 0, 0, 0, 0)] [] (q := 42) (L' := [some (.ref a0)]) (st' := [.int (J 0)]) (v1 := w2) (by decide +kernel) rfl trivial ?_
    exact sim_iret (by decide +kernel) rfl (by decide) rfl
def B_gm_back : bd := (⟨"GateCounterModel", "back", "(I)I"⟩, prog_8_method_11_code, 2, (some .int), [], 6, 1)
theorem m_gm_back : mV B_gm_back 6 1 := ⟨⟨⟨by decide +kernel, Or.inl rfl⟩, rfl, (List.mem_of_getElem? (i := 1922) (by decide +kernel)), by decide +kernel, (List.mem_of_getElem? (i := 104) (by decide +kernel)), ⟨by decide, by decide⟩, by decide⟩, rfl, (by unfold nar; decide +kernel), (List.mem_of_getElem? (i := 1921) (by decide +kernel)), rfl, (List.mem_of_getElem? (i := 67) (by decide +kernel))⟩
noncomputable def F_gm_back (N : Nat) (a0 : Nat) (b1 : Int32) (S : shp) (v : vl) : Option (Int32 × vl) :=
  grd (kin S a0 = some (0, 6)) <| (gr S a0 2).bind fun r2 => (gr S a0 0).bind fun r4 => (F_gm_copies N r2 (J 0) r4 (J 0) (J 199) S v).bind fun w6 => some ((b1, w6))
theorem ok_gm_back (N : Nat) (a0 : Nat) (b1 : Int32) (S : shp) (v : vl) : SimK B_gm_back 0 (entB (bN B_gm_back) [.ref a0, .int b1]) [] S v (F_gm_back N a0 b1 S v) (ρpi S) := by
  show SimK B_gm_back 0 [some (.ref a0), some (.int b1)] [] S v (F_gm_back N a0 b1 S v) _
  unfold F_gm_back
  refine sim_grd fun h1 => ?_
  refine sim_bind fun r2 h3 => ?_
  refine sim_bind fun r4 h5 => ?_
  refine sim_seg [(.aload_n 0, 0, 0, 0), (.getfield 16, 6, 2, 0), (.iconst 0, 0, 0, 0), (.aload_n 0, 0, 0, 0), (.getfield 7, 6, 0, 0), (.iconst 0, 0, 0, 0), (.sipush 199, 0, 0, 199)] [r2, r4] (q := 13) (L' := [some (.ref a0), some (.int b1)]) (st' := [.int (J 199), .int (J 0), .ref r4, .int (J 0), .ref r2]) (v1 := v) (by decide +kernel) rfl ⟨⟨h1, h3⟩, ⟨h1, h5⟩, trivial⟩ ?_
  refine sc_pv (pc3 := 16) (cf_S (idx := 48) [.ref r2, .int (J 0), .ref r4, .int (J 0), .int (J 199)] m_gm_copies ⟨by decide, by decide⟩ (List.mem_of_getElem? (i := 1719) (by decide +kernel)) rfl (Nat.le_of_ble_eq_true rfl) (by decide +kernel) (Nat.le_of_ble_eq_true rfl) rfl) (ok_gm_copies N r2 (J 0) r4 (J 0) (J 199) S v) rfl (fun w6 => ?_)
  refine sim_seg [(.iload_n 1, 0, 0, 0)] [] (q := 17) (L' := [some (.ref a0), some (.int b1)]) (st' := [.int b1]) (v1 := w6) (by decide +kernel) rfl trivial ?_
  exact sim_iret (by decide +kernel) rfl rfl rfl
def B_gm_ages : bd := (⟨"GateCounterModel", "ages", "()V"⟩, prog_8_method_15_code, 2, none, [], 6, 1)
theorem m_gm_ages : mV B_gm_ages 6 0 := ⟨⟨⟨by decide +kernel, Or.inl rfl⟩, rfl, (List.mem_of_getElem? (i := 1915) (by decide +kernel)), by decide +kernel, (List.mem_of_getElem? (i := 104) (by decide +kernel)), ⟨by decide, by decide⟩, by decide⟩, rfl, (by unfold nar; decide +kernel), (List.mem_of_getElem? (i := 1914) (by decide +kernel)), rfl, (List.mem_of_getElem? (i := 66) (by decide +kernel))⟩
noncomputable def F_gm_ages (a0 : Nat) (S : shp) (v : vl) : Option vl :=
  grd (kin S a0 = some (0, 6)) <| (gr S a0 0).bind fun r2 => grd (kin S r2 = some (1, 199)) <| (F_ma_min (J 99) ((gi v r2 2) + (gi v r2 3)) S v).bind fun x5 => (F_ma_max (J (-99)) x5 S v).bind fun x6 => lt (si v r2 2 x6) fun w7 => some (w7)
theorem ok_gm_ages (a0 : Nat) (S : shp) (v : vl) : SimK B_gm_ages 0 (entB (bN B_gm_ages) [.ref a0]) [] S v (F_gm_ages a0 S v) (ρpv S) := by
  show SimK B_gm_ages 0 [some (.ref a0), none] [] S v (F_gm_ages a0 S v) _
  unfold F_gm_ages
  refine sim_grd fun h1 => ?_
  refine sim_bind fun r2 h3 => ?_
  refine sim_grd fun h4 => ?_
  refine sim_seg [(.aload_n 0, 0, 0, 0), (.getfield 7, 6, 0, 0), (.iconst 2, 0, 0, 2), (.iaload, 0, 0, 0), (.aload_n 0, 0, 0, 0), (.getfield 7, 6, 0, 0), (.iconst 3, 0, 0, 3), (.iaload, 0, 0, 0), (.iadd, 0, 0, 0), (.istore_n 1, 0, 0, 0)] [r2, r2] (q := 14) (L' := [some (.ref a0), some (.int ((gi v r2 2) + (gi v r2 3)))]) (st' := []) (v1 := v) (by decide +kernel) rfl ⟨⟨h1, h3⟩, ⟨(Or.inl (kin_alen h4)), (vin_J h4 (by unfold vp_in; decide))⟩, ⟨h1, h3⟩, ⟨(Or.inl (kin_alen h4)), (vin_J h4 (by unfold vp_in; decide))⟩, trivial⟩ ?_
  refine sim_seg [(.aload_n 0, 0, 0, 0), (.getfield 7, 6, 0, 0), (.iconst 2, 0, 0, 2), (.bipush (-99), 0, 0, (-99)), (.bipush 99, 0, 0, 99), (.iload_n 1, 0, 0, 0)] [r2] (q := 24) (L' := [some (.ref a0), some (.int ((gi v r2 2) + (gi v r2 3)))]) (st' := [.int ((gi v r2 2) + (gi v r2 3)), .int (J 99), .int (J (-99)), .int (J 2), .ref r2]) (v1 := v) (by decide +kernel) rfl ⟨⟨h1, h3⟩, trivial⟩ ?_
  refine sc_ri (pc3 := 27) (cf_S (idx := 60) [.int (J 99), .int ((gi v r2 2) + (gi v r2 3))] m_ma_min ⟨by decide, by decide⟩ (List.mem_of_getElem? (i := 1916) (by decide +kernel)) rfl (Nat.le_of_ble_eq_true rfl) (by decide +kernel) (Nat.le_of_ble_eq_true rfl) rfl) (ok_ma_min (J 99) ((gi v r2 2) + (gi v r2 3)) S v) rfl (fun x5 => ?_)
  refine sc_ri (pc3 := 30) (cf_S (idx := 66) [.int (J (-99)), .int x5] m_ma_max ⟨by decide, by decide⟩ (List.mem_of_getElem? (i := 1917) (by decide +kernel)) rfl (Nat.le_of_ble_eq_true rfl) (by decide +kernel) (Nat.le_of_ble_eq_true rfl) rfl) (ok_ma_max (J (-99)) x5 S v) rfl (fun x6 => ?_)
  refine sim_seg [(.iastore, 0, 0, 0)] [] (q := 31) (L' := [some (.ref a0), some (.int ((gi v r2 2) + (gi v r2 3)))]) (st' := []) (v1 := (si v r2 2 x6)) (by decide +kernel) rfl ⟨⟨(kin_alen h4), (vin_J h4 (by unfold vp_in; decide))⟩, trivial⟩ ?_
  refine sim_lt (x := (si v r2 2 x6)) ?_
  generalize (si v r2 2 x6) = w7
  exact sim_vret (by decide +kernel) rfl rfl
def B_gm_clockComes : bd := (⟨"GateCounterModel", "clockComes", "()V"⟩, prog_8_method_16_code, 3, none, [], 6, 2)
theorem m_gm_clockComes : mV B_gm_clockComes 6 0 := ⟨⟨⟨by decide +kernel, Or.inl rfl⟩, rfl, (List.mem_of_getElem? (i := 1911) (by decide +kernel)), by decide +kernel, (List.mem_of_getElem? (i := 104) (by decide +kernel)), ⟨by decide, by decide⟩, by decide⟩, rfl, (by unfold nar; decide +kernel), (List.mem_of_getElem? (i := 1910) (by decide +kernel)), rfl, (List.mem_of_getElem? (i := 65) (by decide +kernel))⟩
noncomputable def K_gm_clockComes_55  (S : shp) (v : vl) (p0 : Nat) : Option vl :=
  grd (kin S p0 = some (0, 6)) <| (gr S p0 0).bind fun r10 => grd (kin S r10 = some (1, 199)) <| (F_ma_floorDiv ((gi v r10 8) + (gi v r10 2)) (J 1000) S v).bind fun x13 => lt (si v r10 8 (((gi v r10 8) + (gi v r10 2)) - ((J 1000) * x13))) fun w14 => lt (si w14 r10 9 ((gi w14 r10 9) + ((gi w14 r10 1) + x13))) fun w15 => some (w15)
theorem sK_gm_clockComes_55   (S : shp) (v : vl) (p0 : Nat) : SimK B_gm_clockComes 55 [some (.ref p0), none, none] [] S v (K_gm_clockComes_55   S v p0) (ρpv S) := by
  unfold K_gm_clockComes_55
  refine sim_grd fun h9 => ?_
  refine sim_bind fun r10 h11 => ?_
  refine sim_grd fun h12 => ?_
  refine sim_seg [(.aload_n 0, 0, 0, 0), (.getfield 7, 6, 0, 0), (.bipush 8, 0, 0, 8), (.iaload, 0, 0, 0), (.aload_n 0, 0, 0, 0), (.getfield 7, 6, 0, 0), (.iconst 2, 0, 0, 2), (.iaload, 0, 0, 0), (.iadd, 0, 0, 0), (.istore_n 1, 0, 0, 0)] [r10, r10] (q := 70) (L' := [some (.ref p0), some (.int ((gi v r10 8) + (gi v r10 2))), none]) (st' := []) (v1 := v) (by decide +kernel) rfl ⟨⟨h9, h11⟩, ⟨(Or.inl (kin_alen h12)), (vin_J h12 (by unfold vp_in; decide))⟩, ⟨h9, h11⟩, ⟨(Or.inl (kin_alen h12)), (vin_J h12 (by unfold vp_in; decide))⟩, trivial⟩ ?_
  refine sim_seg [(.iload_n 1, 0, 0, 0), (.sipush 1000, 0, 0, 1000)] [] (q := 74) (L' := [some (.ref p0), some (.int ((gi v r10 8) + (gi v r10 2))), none]) (st' := [.int (J 1000), .int ((gi v r10 8) + (gi v r10 2))]) (v1 := v) (by decide +kernel) rfl trivial ?_
  refine sc_ri (pc3 := 77) (cf_S (idx := 72) [.int ((gi v r10 8) + (gi v r10 2)), .int (J 1000)] m_ma_floorDiv ⟨by decide, by decide⟩ (List.mem_of_getElem? (i := 1918) (by decide +kernel)) rfl (Nat.le_of_ble_eq_true rfl) (by decide +kernel) (Nat.le_of_ble_eq_true rfl) rfl) (ok_ma_floorDiv ((gi v r10 8) + (gi v r10 2)) (J 1000) S v) rfl (fun x13 => ?_)
  refine sim_seg [(.istore_n 2, 0, 0, 0)] [] (q := 78) (L' := [some (.ref p0), some (.int ((gi v r10 8) + (gi v r10 2))), some (.int x13)]) (st' := []) (v1 := v) (by decide +kernel) rfl trivial ?_
  refine sim_seg [(.aload_n 0, 0, 0, 0), (.getfield 7, 6, 0, 0), (.bipush 8, 0, 0, 8), (.iload_n 1, 0, 0, 0), (.sipush 1000, 0, 0, 1000), (.iload_n 2, 0, 0, 0), (.imul, 0, 0, 0), (.isub, 0, 0, 0), (.iastore, 0, 0, 0), (.aload_n 0, 0, 0, 0)] [r10] (q := 93) (L' := [some (.ref p0), some (.int ((gi v r10 8) + (gi v r10 2))), some (.int x13)]) (st' := [.ref p0]) (v1 := (si v r10 8 (((gi v r10 8) + (gi v r10 2)) - ((J 1000) * x13)))) (by decide +kernel) rfl ⟨⟨h9, h11⟩, ⟨(kin_alen h12), (vin_J h12 (by unfold vp_in; decide))⟩, trivial⟩ ?_
  refine sim_lt (x := (si v r10 8 (((gi v r10 8) + (gi v r10 2)) - ((J 1000) * x13)))) ?_
  generalize (si v r10 8 (((gi v r10 8) + (gi v r10 2)) - ((J 1000) * x13))) = w14
  refine sim_seg [(.getfield 7, 6, 0, 0), (.bipush 9, 0, 0, 9), (.dup2, 0, 0, 0), (.iaload, 0, 0, 0), (.aload_n 0, 0, 0, 0), (.getfield 7, 6, 0, 0), (.iconst 1, 0, 0, 1), (.iaload, 0, 0, 0), (.iload_n 2, 0, 0, 0), (.iadd, 0, 0, 0), (.iadd, 0, 0, 0), (.iastore, 0, 0, 0)] [r10, r10] (q := 110) (L' := [some (.ref p0), some (.int ((gi v r10 8) + (gi v r10 2))), some (.int x13)]) (st' := []) (v1 := (si w14 r10 9 ((gi w14 r10 9) + ((gi w14 r10 1) + x13)))) (by decide +kernel) rfl ⟨⟨h9, h11⟩, ⟨(Or.inl (kin_alen h12)), (vin_J h12 (by unfold vp_in; decide))⟩, ⟨h9, h11⟩, ⟨(Or.inl (kin_alen h12)), (vin_J h12 (by unfold vp_in; decide))⟩, ⟨(kin_alen h12), (vin_J h12 (by unfold vp_in; decide))⟩, trivial⟩ ?_
  refine sim_lt (x := (si w14 r10 9 ((gi w14 r10 9) + ((gi w14 r10 1) + x13)))) ?_
  generalize (si w14 r10 9 ((gi w14 r10 9) + ((gi w14 r10 1) + x13))) = w15
  exact sim_vret (by decide +kernel) rfl rfl
noncomputable def F_gm_clockComes (a0 : Nat) (S : shp) (v : vl) : Option vl :=
  grd (kin S a0 = some (0, 6)) <| (gr S a0 0).bind fun r2 => grd (kin S r2 = some (1, 199)) <| lt (si v r2 0 (gi v r2 9)) fun w5 => lt (si w5 r2 10 (gi w5 r2 9)) fun w6 => lt (si w6 r2 11 ((gi w6 r2 11) + (J 1))) fun w7 => (if ((gi w7 r2 11) - (gi w7 r2 11) / (J 100) * (J 100)) = (J 0) then (F_gm_ages a0 S w7).bind fun w8 => K_gm_clockComes_55  S w8 a0 else K_gm_clockComes_55  S w7 a0)
theorem ok_gm_clockComes (a0 : Nat) (S : shp) (v : vl) : SimK B_gm_clockComes 0 (entB (bN B_gm_clockComes) [.ref a0]) [] S v (F_gm_clockComes a0 S v) (ρpv S) := by
  show SimK B_gm_clockComes 0 [some (.ref a0), none, none] [] S v (F_gm_clockComes a0 S v) _
  unfold F_gm_clockComes
  refine sim_grd fun h1 => ?_
  refine sim_bind fun r2 h3 => ?_
  refine sim_grd fun h4 => ?_
  refine sim_seg [(.aload_n 0, 0, 0, 0), (.getfield 7, 6, 0, 0), (.iconst 0, 0, 0, 0), (.aload_n 0, 0, 0, 0), (.getfield 7, 6, 0, 0), (.bipush 9, 0, 0, 9), (.iaload, 0, 0, 0), (.iastore, 0, 0, 0), (.aload_n 0, 0, 0, 0)] [r2, r2] (q := 14) (L' := [some (.ref a0), none, none]) (st' := [.ref a0]) (v1 := (si v r2 0 (gi v r2 9))) (by decide +kernel) rfl ⟨⟨h1, h3⟩, ⟨h1, h3⟩, ⟨(Or.inl (kin_alen h4)), (vin_J h4 (by unfold vp_in; decide))⟩, ⟨(kin_alen h4), (vin_J h4 (by unfold vp_in; decide))⟩, trivial⟩ ?_
  refine sim_lt (x := (si v r2 0 (gi v r2 9))) ?_
  generalize (si v r2 0 (gi v r2 9)) = w5
  refine sim_seg [(.getfield 7, 6, 0, 0), (.bipush 10, 0, 0, 10), (.aload_n 0, 0, 0, 0), (.getfield 7, 6, 0, 0), (.bipush 9, 0, 0, 9), (.iaload, 0, 0, 0), (.iastore, 0, 0, 0), (.aload_n 0, 0, 0, 0)] [r2, r2] (q := 28) (L' := [some (.ref a0), none, none]) (st' := [.ref a0]) (v1 := (si w5 r2 10 (gi w5 r2 9))) (by decide +kernel) rfl ⟨⟨h1, h3⟩, ⟨h1, h3⟩, ⟨(Or.inl (kin_alen h4)), (vin_J h4 (by unfold vp_in; decide))⟩, ⟨(kin_alen h4), (vin_J h4 (by unfold vp_in; decide))⟩, trivial⟩ ?_
  refine sim_lt (x := (si w5 r2 10 (gi w5 r2 9))) ?_
  generalize (si w5 r2 10 (gi w5 r2 9)) = w6
  refine sim_seg [(.getfield 7, 6, 0, 0), (.bipush 11, 0, 0, 11), (.dup2, 0, 0, 0), (.iaload, 0, 0, 0), (.iconst 1, 0, 0, 1), (.iadd, 0, 0, 0), (.iastore, 0, 0, 0), (.aload_n 0, 0, 0, 0)] [r2] (q := 39) (L' := [some (.ref a0), none, none]) (st' := [.ref a0]) (v1 := (si w6 r2 11 ((gi w6 r2 11) + (J 1)))) (by decide +kernel) rfl ⟨⟨h1, h3⟩, ⟨(Or.inl (kin_alen h4)), (vin_J h4 (by unfold vp_in; decide))⟩, ⟨(kin_alen h4), (vin_J h4 (by unfold vp_in; decide))⟩, trivial⟩ ?_
  refine sim_lt (x := (si w6 r2 11 ((gi w6 r2 11) + (J 1)))) ?_
  generalize (si w6 r2 11 ((gi w6 r2 11) + (J 1))) = w7
  refine sim_seg [(.getfield 7, 6, 0, 0), (.bipush 11, 0, 0, 11), (.iaload, 0, 0, 0), (.bipush 100, 0, 0, 100), (.irem, 0, 0, 0)] [r2] (q := 48) (L' := [some (.ref a0), none, none]) (st' := [.int ((gi w7 r2 11) - (gi w7 r2 11) / (J 100) * (J 100))]) (v1 := w7) (by decide +kernel) rfl ⟨⟨h1, h3⟩, ⟨(Or.inl (kin_alen h4)), (vin_J h4 (by unfold vp_in; decide))⟩, (by decide), trivial⟩ ?_
  refine sim_ne0 (o := 7) (tg := 55) (f := 51) (by decide +kernel) rfl rfl (fun _ => ?_) (fun _ => ?_)
  · refine sim_seg [(.aload_n 0, 0, 0, 0)] [] (q := 52) (L' := [some (.ref a0), none, none]) (st' := [.ref a0]) (v1 := w7) (by decide +kernel) rfl trivial ?_
    refine sc_pv (pc3 := 55) (cf_V (idx := 69) (ci := 6) [] m_gm_ages (by decide) ⟨by decide, by decide⟩ (List.mem_of_getElem? (i := 1912) (by decide +kernel)) rfl (Nat.le_of_ble_eq_true rfl) h1 (by decide +kernel) (Nat.le_of_ble_eq_true rfl) rfl) (ok_gm_ages a0 S w7) rfl (fun w8 => ?_)
    exact sK_gm_clockComes_55 S w8 a0
  · exact sK_gm_clockComes_55 S w7 a0
def B_gm_edgeComes : bd := (⟨"GateCounterModel", "edgeComes", "()Z"⟩, prog_8_method_17_code, 1, (some .boolean), [], 6, 0)
theorem m_gm_edgeComes : mV B_gm_edgeComes 6 0 := ⟨⟨⟨by decide +kernel, Or.inl rfl⟩, rfl, (List.mem_of_getElem? (i := 1907) (by decide +kernel)), by decide +kernel, (List.mem_of_getElem? (i := 104) (by decide +kernel)), ⟨by decide, by decide⟩, by decide⟩, rfl, (by unfold nar; decide +kernel), (List.mem_of_getElem? (i := 1906) (by decide +kernel)), rfl, (List.mem_of_getElem? (i := 64) (by decide +kernel))⟩
noncomputable def F_gm_edgeComes (a0 : Nat) (S : shp) (v : vl) : Option (Int32 × vl) :=
  grd (kin S a0 = some (0, 6)) <| (gr S a0 0).bind fun r2 => grd (kin S r2 = some (1, 199)) <| lt (si v r2 0 (gi v r2 13)) fun w5 => lt (si w5 r2 13 ((gi w5 r2 13) + (gi w5 r2 12))) fun w6 => lt (si w6 r2 14 ((gi w6 r2 14) + (J 1))) fun w7 => lt (si w7 r2 17 ((gi w7 r2 17) + (J 1))) fun w8 => lt (si w8 r2 15 ((gi w8 r2 15) + (J 1))) fun w9 => (if (gi w9 r2 15) < (gi w9 r2 4) then some (((J 0), w9)) else lt (si w9 r2 15 (J 0)) fun w10 => lt (si w10 r2 16 ((gi w10 r2 16) + (J 1))) fun w11 => lt (si w11 r2 18 ((gi w11 r2 18) + (J 1))) fun w12 => some (((J 1), w12)))
theorem ok_gm_edgeComes (a0 : Nat) (S : shp) (v : vl) : SimK B_gm_edgeComes 0 (entB (bN B_gm_edgeComes) [.ref a0]) [] S v (F_gm_edgeComes a0 S v) (ρpi S) := by
  show SimK B_gm_edgeComes 0 [some (.ref a0)] [] S v (F_gm_edgeComes a0 S v) _
  unfold F_gm_edgeComes
  refine sim_grd fun h1 => ?_
  refine sim_bind fun r2 h3 => ?_
  refine sim_grd fun h4 => ?_
  refine sim_seg [(.aload_n 0, 0, 0, 0), (.getfield 7, 6, 0, 0), (.iconst 0, 0, 0, 0), (.aload_n 0, 0, 0, 0), (.getfield 7, 6, 0, 0), (.bipush 13, 0, 0, 13), (.iaload, 0, 0, 0), (.iastore, 0, 0, 0), (.aload_n 0, 0, 0, 0)] [r2, r2] (q := 14) (L' := [some (.ref a0)]) (st' := [.ref a0]) (v1 := (si v r2 0 (gi v r2 13))) (by decide +kernel) rfl ⟨⟨h1, h3⟩, ⟨h1, h3⟩, ⟨(Or.inl (kin_alen h4)), (vin_J h4 (by unfold vp_in; decide))⟩, ⟨(kin_alen h4), (vin_J h4 (by unfold vp_in; decide))⟩, trivial⟩ ?_
  refine sim_lt (x := (si v r2 0 (gi v r2 13))) ?_
  generalize (si v r2 0 (gi v r2 13)) = w5
  refine sim_seg [(.getfield 7, 6, 0, 0), (.bipush 13, 0, 0, 13), (.dup2, 0, 0, 0), (.iaload, 0, 0, 0), (.aload_n 0, 0, 0, 0), (.getfield 7, 6, 0, 0), (.bipush 12, 0, 0, 12), (.iaload, 0, 0, 0), (.iadd, 0, 0, 0), (.iastore, 0, 0, 0), (.aload_n 0, 0, 0, 0)] [r2, r2] (q := 31) (L' := [some (.ref a0)]) (st' := [.ref a0]) (v1 := (si w5 r2 13 ((gi w5 r2 13) + (gi w5 r2 12)))) (by decide +kernel) rfl ⟨⟨h1, h3⟩, ⟨(Or.inl (kin_alen h4)), (vin_J h4 (by unfold vp_in; decide))⟩, ⟨h1, h3⟩, ⟨(Or.inl (kin_alen h4)), (vin_J h4 (by unfold vp_in; decide))⟩, ⟨(kin_alen h4), (vin_J h4 (by unfold vp_in; decide))⟩, trivial⟩ ?_
  refine sim_lt (x := (si w5 r2 13 ((gi w5 r2 13) + (gi w5 r2 12)))) ?_
  generalize (si w5 r2 13 ((gi w5 r2 13) + (gi w5 r2 12))) = w6
  refine sim_seg [(.getfield 7, 6, 0, 0), (.bipush 14, 0, 0, 14), (.dup2, 0, 0, 0), (.iaload, 0, 0, 0), (.iconst 1, 0, 0, 1), (.iadd, 0, 0, 0), (.iastore, 0, 0, 0), (.aload_n 0, 0, 0, 0)] [r2] (q := 42) (L' := [some (.ref a0)]) (st' := [.ref a0]) (v1 := (si w6 r2 14 ((gi w6 r2 14) + (J 1)))) (by decide +kernel) rfl ⟨⟨h1, h3⟩, ⟨(Or.inl (kin_alen h4)), (vin_J h4 (by unfold vp_in; decide))⟩, ⟨(kin_alen h4), (vin_J h4 (by unfold vp_in; decide))⟩, trivial⟩ ?_
  refine sim_lt (x := (si w6 r2 14 ((gi w6 r2 14) + (J 1)))) ?_
  generalize (si w6 r2 14 ((gi w6 r2 14) + (J 1))) = w7
  refine sim_seg [(.getfield 7, 6, 0, 0), (.bipush 17, 0, 0, 17), (.dup2, 0, 0, 0), (.iaload, 0, 0, 0), (.iconst 1, 0, 0, 1), (.iadd, 0, 0, 0), (.iastore, 0, 0, 0), (.aload_n 0, 0, 0, 0)] [r2] (q := 53) (L' := [some (.ref a0)]) (st' := [.ref a0]) (v1 := (si w7 r2 17 ((gi w7 r2 17) + (J 1)))) (by decide +kernel) rfl ⟨⟨h1, h3⟩, ⟨(Or.inl (kin_alen h4)), (vin_J h4 (by unfold vp_in; decide))⟩, ⟨(kin_alen h4), (vin_J h4 (by unfold vp_in; decide))⟩, trivial⟩ ?_
  refine sim_lt (x := (si w7 r2 17 ((gi w7 r2 17) + (J 1)))) ?_
  generalize (si w7 r2 17 ((gi w7 r2 17) + (J 1))) = w8
  refine sim_seg [(.getfield 7, 6, 0, 0), (.bipush 15, 0, 0, 15), (.dup2, 0, 0, 0), (.iaload, 0, 0, 0), (.iconst 1, 0, 0, 1), (.iadd, 0, 0, 0), (.iastore, 0, 0, 0), (.aload_n 0, 0, 0, 0)] [r2] (q := 64) (L' := [some (.ref a0)]) (st' := [.ref a0]) (v1 := (si w8 r2 15 ((gi w8 r2 15) + (J 1)))) (by decide +kernel) rfl ⟨⟨h1, h3⟩, ⟨(Or.inl (kin_alen h4)), (vin_J h4 (by unfold vp_in; decide))⟩, ⟨(kin_alen h4), (vin_J h4 (by unfold vp_in; decide))⟩, trivial⟩ ?_
  refine sim_lt (x := (si w8 r2 15 ((gi w8 r2 15) + (J 1)))) ?_
  generalize (si w8 r2 15 ((gi w8 r2 15) + (J 1))) = w9
  refine sim_seg [(.getfield 7, 6, 0, 0), (.bipush 15, 0, 0, 15), (.iaload, 0, 0, 0), (.aload_n 0, 0, 0, 0), (.getfield 7, 6, 0, 0), (.iconst 4, 0, 0, 4), (.iaload, 0, 0, 0)] [r2, r2] (q := 76) (L' := [some (.ref a0)]) (st' := [.int (gi w9 r2 4), .int (gi w9 r2 15)]) (v1 := w9) (by decide +kernel) rfl ⟨⟨h1, h3⟩, ⟨(Or.inl (kin_alen h4)), (vin_J h4 (by unfold vp_in; decide))⟩, ⟨h1, h3⟩, ⟨(Or.inl (kin_alen h4)), (vin_J h4 (by unfold vp_in; decide))⟩, trivial⟩ ?_
  refine sim_ge (o := 5) (tg := 81) (f := 79) (by decide +kernel) rfl rfl (fun _ => ?_) (fun _ => ?_)
  · refine sim_seg [(.iconst 0, 0, 0, 0)] [] (q := 80) (L' := [some (.ref a0)]) (st' := [.int (J 0)]) (v1 := w9) (by decide +kernel) rfl trivial ?_
    exact sim_iret (by decide +kernel) rfl (by decide) rfl
  · refine sim_seg [(.aload_n 0, 0, 0, 0), (.getfield 7, 6, 0, 0), (.bipush 15, 0, 0, 15), (.iconst 0, 0, 0, 0), (.iastore, 0, 0, 0), (.aload_n 0, 0, 0, 0)] [r2] (q := 90) (L' := [some (.ref a0)]) (st' := [.ref a0]) (v1 := (si w9 r2 15 (J 0))) (by decide +kernel) rfl ⟨⟨h1, h3⟩, ⟨(kin_alen h4), (vin_J h4 (by unfold vp_in; decide))⟩, trivial⟩ ?_
    refine sim_lt (x := (si w9 r2 15 (J 0))) ?_
    generalize (si w9 r2 15 (J 0)) = w10
    refine sim_seg [(.getfield 7, 6, 0, 0), (.bipush 16, 0, 0, 16), (.dup2, 0, 0, 0), (.iaload, 0, 0, 0), (.iconst 1, 0, 0, 1), (.iadd, 0, 0, 0), (.iastore, 0, 0, 0), (.aload_n 0, 0, 0, 0)] [r2] (q := 101) (L' := [some (.ref a0)]) (st' := [.ref a0]) (v1 := (si w10 r2 16 ((gi w10 r2 16) + (J 1)))) (by decide +kernel) rfl ⟨⟨h1, h3⟩, ⟨(Or.inl (kin_alen h4)), (vin_J h4 (by unfold vp_in; decide))⟩, ⟨(kin_alen h4), (vin_J h4 (by unfold vp_in; decide))⟩, trivial⟩ ?_
    refine sim_lt (x := (si w10 r2 16 ((gi w10 r2 16) + (J 1)))) ?_
    generalize (si w10 r2 16 ((gi w10 r2 16) + (J 1))) = w11
    refine sim_seg [(.getfield 7, 6, 0, 0), (.bipush 18, 0, 0, 18), (.dup2, 0, 0, 0), (.iaload, 0, 0, 0), (.iconst 1, 0, 0, 1), (.iadd, 0, 0, 0), (.iastore, 0, 0, 0), (.iconst 1, 0, 0, 1)] [r2] (q := 112) (L' := [some (.ref a0)]) (st' := [.int (J 1)]) (v1 := (si w11 r2 18 ((gi w11 r2 18) + (J 1)))) (by decide +kernel) rfl ⟨⟨h1, h3⟩, ⟨(Or.inl (kin_alen h4)), (vin_J h4 (by unfold vp_in; decide))⟩, ⟨(kin_alen h4), (vin_J h4 (by unfold vp_in; decide))⟩, trivial⟩ ?_
    refine sim_lt (x := (si w11 r2 18 ((gi w11 r2 18) + (J 1)))) ?_
    generalize (si w11 r2 18 ((gi w11 r2 18) + (J 1))) = w12
    exact sim_iret (by decide +kernel) rfl (by decide) rfl
