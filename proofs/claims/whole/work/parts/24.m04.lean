/-! Methods: st_valueOf, st_measureByGate, ck_timeOfAging, ck_passTo, sg_reasonForNoEnd, sg_passTo, st_passTo, st_measureByPeriod, gc_idealValue, gc_apart, gc_longestGate, gc_mostPeriods, gc_bestPrescale, st_valueAt, gc_meanValue, st_valuesBelow, gc_median. -/
def B_st_valueOf : bd := (⟨"GateCounter$State", "valueOf", "(III)I"⟩, prog_6_method_9_code, 6, (some .int), [], 4, 0)
theorem m_st_valueOf : mV B_st_valueOf 4 3 := ⟨⟨⟨by decide +kernel, Or.inl rfl⟩, rfl, (List.mem_of_getElem? (i := 717) (by decide +kernel)), by decide +kernel, (List.mem_of_getElem? (i := 97) (by decide +kernel)), ⟨by decide, by decide⟩, by decide⟩, rfl, (by unfold nar; decide +kernel), (List.mem_of_getElem? (i := 715) (by decide +kernel)), rfl, (List.mem_of_getElem? (i := 716) (by decide +kernel))⟩
noncomputable def F_st_valueOf (a0 : Nat) (b1 : Int32) (b2 : Int32) (b3 : Int32) (S : shp) (v : vl) : Option Int32 :=
  grd (kin S a0 = some (0, 4)) <| (gr S a0 6).bind fun r2 => grd (kin S r2 = some (0, 0)) <| lt (((Int32.toInt64 b2) * (Int32.toInt64 (gi v r2 0))) * (Int32.toInt64 ((J 1000) + b3))) fun y5 => (if (J 0) < (lg_cmp y5 (JL 0)) then (gr S a0 7).bind fun r6 => grd (kin S r6 = some (0, 3)) <| grd (¬ y5 = 0) <| lt (Int64.toInt32 ((((Int32.toInt64 b1) * (Int32.toInt64 (gi v r6 4))) * (JL 1000000000)) / y5)) fun x10 => some (x10) else some ((J 0)))
theorem ok_st_valueOf (a0 : Nat) (b1 : Int32) (b2 : Int32) (b3 : Int32) (S : shp) (v : vl) : SimK B_st_valueOf 0 (entB (bN B_st_valueOf) [.ref a0, .int b1, .int b2, .int b3]) [] S v (F_st_valueOf a0 b1 b2 b3 S v) (ρri S v) := by
  show SimK B_st_valueOf 0 [some (.ref a0), some (.int b1), some (.int b2), some (.int b3), none, none] [] S v (F_st_valueOf a0 b1 b2 b3 S v) _
  unfold F_st_valueOf
  refine sim_grd fun h1 => ?_
  refine sim_bind fun r2 h3 => ?_
  refine sim_grd fun h4 => ?_
  refine sim_seg [(.iload_n 2, 0, 0, 0), (.i2l, 0, 0, 0), (.aload_n 0, 0, 0, 0), (.getfield 12, 4, 6, 0), (.getfield 116, 0, 0, 0), (.i2l, 0, 0, 0), (.lmul, 0, 0, 0), (.sipush 1000, 0, 0, 1000), (.iload_n 3, 0, 0, 0), (.iadd, 0, 0, 0), (.i2l, 0, 0, 0), (.lmul, 0, 0, 0)] [r2] (q := 18) (L' := [some (.ref a0), some (.int b1), some (.int b2), some (.int b3), none, none]) (st' := [.long (((Int32.toInt64 b2) * (Int32.toInt64 (gi v r2 0))) * (Int32.toInt64 ((J 1000) + b3)))]) (v1 := v) (by decide +kernel) rfl ⟨⟨h1, h3⟩, h4, trivial⟩ ?_
  refine sim_nm (((Int32.toInt64 b2) * (Int32.toInt64 (gi v r2 0))) * (Int32.toInt64 ((J 1000) + b3))) (fun y5 => [some (.ref a0), some (.int b1), some (.int b2), some (.int b3), none, none]) (fun y5 => [.long y5]) (fun y5 => ?_) rfl rfl
  refine sim_seg [(.lstore 4, 0, 0, 0)] [] (q := 20) (L' := [some (.ref a0), some (.int b1), some (.int b2), some (.int b3), some (.long y5), none]) (st' := []) (v1 := v) (by decide +kernel) rfl trivial ?_
  refine sim_seg [(.lload 4, 0, 0, 0), (.lconst 0, 0, 0, 0), (.lcmp, 0, 0, 0)] [] (q := 24) (L' := [some (.ref a0), some (.int b1), some (.int b2), some (.int b3), some (.long y5), none]) (st' := [.int (lg_cmp y5 (JL 0))]) (v1 := v) (by decide +kernel) rfl trivial ?_
  refine sim_le0 (o := 25) (tg := 49) (f := 27) (by decide +kernel) rfl rfl (fun _ => ?_) (fun _ => ?_)
  · refine sim_bind fun r6 h7 => ?_
    refine sim_grd fun h8 => ?_
    refine sim_grd fun h9 => ?_
    refine sim_seg [(.iload_n 1, 0, 0, 0), (.i2l, 0, 0, 0), (.aload_n 0, 0, 0, 0), (.getfield 21, 4, 7, 0), (.getfield 122, 3, 4, 0), (.i2l, 0, 0, 0), (.lmul, 0, 0, 0), (.ldc2_w 125, 0, 0, 1000000000), (.lmul, 0, 0, 0), (.lload 4, 0, 0, 0), (.ldiv, 0, 0, 0), (.l2i, 0, 0, 0)] [r6] (q := 46) (L' := [some (.ref a0), some (.int b1), some (.int b2), some (.int b3), some (.long y5), none]) (st' := [.int (Int64.toInt32 ((((Int32.toInt64 b1) * (Int32.toInt64 (gi v r6 4))) * (JL 1000000000)) / y5))]) (v1 := v) (by decide +kernel) rfl ⟨⟨h1, h7⟩, h8, h9, trivial⟩ ?_
    refine sim_nm (Int64.toInt32 ((((Int32.toInt64 b1) * (Int32.toInt64 (gi v r6 4))) * (JL 1000000000)) / y5)) (fun x10 => [some (.ref a0), some (.int b1), some (.int b2), some (.int b3), some (.long y5), none]) (fun x10 => [.int x10]) (fun x10 => ?_) rfl rfl
    refine sim_seg [(.goto 4, 0, 0, 0)] [] (q := 50) (L' := [some (.ref a0), some (.int b1), some (.int b2), some (.int b3), some (.long y5), none]) (st' := [.int x10]) (v1 := v) (by decide +kernel) rfl trivial ?_
    exact sim_iret (by decide +kernel) rfl rfl rfl
  · refine sim_seg [(.iconst 0, 0, 0, 0)] [] (q := 50) (L' := [some (.ref a0), some (.int b1), some (.int b2), some (.int b3), some (.long y5), none]) (st' := [.int (J 0)]) (v1 := v) (by decide +kernel) rfl trivial ?_
    exact sim_iret (by decide +kernel) rfl rfl rfl
def B_st_measureByGate : bd := (⟨"GateCounter$State", "measureByGate", "()I"⟩, prog_6_method_6_code, 5, (some .int), [], 4, 5)
theorem m_st_measureByGate : mV B_st_measureByGate 4 0 := ⟨⟨⟨by decide +kernel, Or.inl rfl⟩, rfl, (List.mem_of_getElem? (i := 764) (by decide +kernel)), by decide +kernel, (List.mem_of_getElem? (i := 97) (by decide +kernel)), ⟨by decide, by decide⟩, by decide⟩, rfl, (by unfold nar; decide +kernel), (List.mem_of_getElem? (i := 762) (by decide +kernel)), rfl, (List.mem_of_getElem? (i := 763) (by decide +kernel))⟩
noncomputable def F_st_measureByGate (N : Nat) (a0 : Nat) (S : shp) (v : vl) : Option (Int32 × shp × vl) :=
  grd (kin S a0 = some (0, 4)) <| (F_st_toClockEdge N a0 S v).bind fun (x2, w3) => (if x2 = (J 0) then some (((J 1), S, w3)) else (gr S a0 7).bind fun r4 => grd (kin S r4 = some (0, 3)) <| (gr S a0 6).bind fun r7 => grd (kin S r7 = some (0, 0)) <| (F_ck_passEdges N r7 (gi w3 a0 1) S w3).bind fun w10 => (if (J 2000000) < (gi w10 r7 6) then some (((J 1), S, w10)) else lt (si w10 a0 0 (gi w10 r7 6)) fun w11 => (F_sg_passAheadOfClock N r4 (gi w11 a0 0) S w11).bind fun w12 => (F_st_valueOf a0 ((gi w12 r4 3) - (gi w3 r4 3)) (gi w12 a0 1) (gi w12 a0 3) S w12).bind fun x13 => grd (kin S (nxt S) = none) <| lt3 (grow S (0, 1) (fTN 1).2.1) (nxt S) (zero w12 (nxt S)) fun S15 r16 v17 => grd (kin S15 a0 = some (0, 4)) <| (F_ms_init r16 (J 0) (gi w3 a0 0) (gi v17 a0 0) ((gi w12 r4 3) - (gi w3 r4 3)) x13 (gi v17 a0 1) (gi v17 a0 3) S15 v17).bind fun w21 => (F_st_keep N a0 r16 S15 w21).bind fun (S22, w23) => some (((J 0), S22, w23))))
theorem ok_st_measureByGate (N : Nat) (a0 : Nat) (S : shp) (v : vl) : SimK B_st_measureByGate 0 (entB (bN B_st_measureByGate) [.ref a0]) [] S v (F_st_measureByGate N a0 S v) (ρgi) := by
  show SimK B_st_measureByGate 0 [some (.ref a0), none, none, none, none] [] S v (F_st_measureByGate N a0 S v) _
  unfold F_st_measureByGate
  refine sim_seg [(.aload_n 0, 0, 0, 0)] [] (q := 1) (L' := [some (.ref a0), none, none, none, none]) (st' := [.ref a0]) (v1 := v) (by decide +kernel) rfl trivial ?_
  refine sim_grd fun h1 => ?_
  refine sc_pi (pc3 := 4) (cf_V (idx := 83) (ci := 4) [] m_st_toClockEdge (by decide) ⟨by decide, by decide⟩ (List.mem_of_getElem? (i := 765) (by decide +kernel)) rfl (Nat.le_of_ble_eq_true rfl) h1 (by decide +kernel) (Nat.le_of_ble_eq_true rfl) rfl) (ok_st_toClockEdge N a0 S v) rfl (fun x2 w3 => ?_)
  refine sim_ne0 (o := 5) (tg := 9) (f := 7) (by decide +kernel) rfl rfl (fun _ => ?_) (fun _ => ?_)
  · refine sim_seg [(.iconst 1, 0, 0, 1)] [] (q := 8) (L' := [some (.ref a0), none, none, none, none]) (st' := [.int (J 1)]) (v1 := w3) (by decide +kernel) rfl trivial ?_
    exact sim_iret (by decide +kernel) rfl rfl rfl
  · refine sim_seg [(.aload_n 0, 0, 0, 0), (.getfield 34, 4, 0, 0), (.istore_n 1, 0, 0, 0)] [] (q := 14) (L' := [some (.ref a0), some (.int (gi w3 a0 0)), none, none, none]) (st' := []) (v1 := w3) (by decide +kernel) rfl ⟨h1, trivial⟩ ?_
    refine sim_bind fun r4 h5 => ?_
    refine sim_grd fun h6 => ?_
    refine sim_seg [(.aload_n 0, 0, 0, 0), (.getfield 21, 4, 7, 0), (.getfield 87, 3, 3, 0), (.istore_n 2, 0, 0, 0)] [r4] (q := 22) (L' := [some (.ref a0), some (.int (gi w3 a0 0)), some (.int (gi w3 r4 3)), none, none]) (st' := []) (v1 := w3) (by decide +kernel) rfl ⟨⟨h1, h5⟩, h6, trivial⟩ ?_
    refine sim_bind fun r7 h8 => ?_
    refine sim_seg [(.aload_n 0, 0, 0, 0), (.getfield 12, 4, 6, 0), (.aload_n 0, 0, 0, 0), (.getfield 38, 4, 1, 0)] [r7] (q := 30) (L' := [some (.ref a0), some (.int (gi w3 a0 0)), some (.int (gi w3 r4 3)), none, none]) (st' := [.int (gi w3 a0 1), .ref r7]) (v1 := w3) (by decide +kernel) rfl ⟨⟨h1, h8⟩, h1, trivial⟩ ?_
    refine sim_grd fun h9 => ?_
    refine sc_pv (pc3 := 33) (cf_V (idx := 90) (ci := 0) [.int (gi w3 a0 1)] m_ck_passEdges (by decide) ⟨by decide, by decide⟩ (List.mem_of_getElem? (i := 775) (by decide +kernel)) rfl (Nat.le_of_ble_eq_true rfl) h9 (by decide +kernel) (Nat.le_of_ble_eq_true rfl) rfl) (ok_ck_passEdges N r7 (gi w3 a0 1) S w3) rfl (fun w10 => ?_)
    refine sim_seg [(.aload_n 0, 0, 0, 0), (.getfield 12, 4, 6, 0), (.getfield 77, 0, 6, 0), (.ldc 73, 0, 0, 2000000)] [r7] (q := 42) (L' := [some (.ref a0), some (.int (gi w3 a0 0)), some (.int (gi w3 r4 3)), none, none]) (st' := [.int (J 2000000), .int (gi w10 r7 6)]) (v1 := w10) (by decide +kernel) rfl ⟨⟨h1, h8⟩, h9, trivial⟩ ?_
    refine sim_le (o := 5) (tg := 47) (f := 45) (by decide +kernel) rfl rfl (fun _ => ?_) (fun _ => ?_)
    · refine sim_seg [(.iconst 1, 0, 0, 1)] [] (q := 46) (L' := [some (.ref a0), some (.int (gi w3 a0 0)), some (.int (gi w3 r4 3)), none, none]) (st' := [.int (J 1)]) (v1 := w10) (by decide +kernel) rfl trivial ?_
      exact sim_iret (by decide +kernel) rfl rfl rfl
    · refine sim_seg [(.aload_n 0, 0, 0, 0), (.aload_n 0, 0, 0, 0), (.getfield 12, 4, 6, 0), (.getfield 77, 0, 6, 0), (.putfield 34, 4, 0, 0), (.aload_n 0, 0, 0, 0)] [r7] (q := 59) (L' := [some (.ref a0), some (.int (gi w3 a0 0)), some (.int (gi w3 r4 3)), none, none]) (st' := [.ref a0]) (v1 := (si w10 a0 0 (gi w10 r7 6))) (by decide +kernel) rfl ⟨⟨h1, h8⟩, h9, h1, trivial⟩ ?_
      refine sim_lt (x := (si w10 a0 0 (gi w10 r7 6))) ?_
      generalize (si w10 a0 0 (gi w10 r7 6)) = w11
      refine sim_seg [(.getfield 21, 4, 7, 0), (.aload_n 0, 0, 0, 0), (.getfield 34, 4, 0, 0)] [r4] (q := 66) (L' := [some (.ref a0), some (.int (gi w3 a0 0)), some (.int (gi w3 r4 3)), none, none]) (st' := [.int (gi w11 a0 0), .ref r4]) (v1 := w11) (by decide +kernel) rfl ⟨⟨h1, h5⟩, h1, trivial⟩ ?_
      refine sc_pv (pc3 := 69) (cf_V (idx := 80) (ci := 3) [.int (gi w11 a0 0)] m_sg_passAheadOfClock (by decide) ⟨by decide, by decide⟩ (List.mem_of_getElem? (i := 771) (by decide +kernel)) rfl (Nat.le_of_ble_eq_true rfl) h6 (by decide +kernel) (Nat.le_of_ble_eq_true rfl) rfl) (ok_sg_passAheadOfClock N r4 (gi w11 a0 0) S w11) rfl (fun w12 => ?_)
      refine sim_seg [(.aload_n 0, 0, 0, 0), (.getfield 21, 4, 7, 0), (.getfield 87, 3, 3, 0), (.iload_n 2, 0, 0, 0), (.isub, 0, 0, 0), (.istore_n 3, 0, 0, 0)] [r4] (q := 79) (L' := [some (.ref a0), some (.int (gi w3 a0 0)), some (.int (gi w3 r4 3)), some (.int ((gi w12 r4 3) - (gi w3 r4 3))), none]) (st' := []) (v1 := w12) (by decide +kernel) rfl ⟨⟨h1, h5⟩, h6, trivial⟩ ?_
      refine sim_seg [(.aload_n 0, 0, 0, 0), (.iload_n 3, 0, 0, 0), (.aload_n 0, 0, 0, 0), (.getfield 38, 4, 1, 0), (.aload_n 0, 0, 0, 0), (.getfield 44, 4, 3, 0)] [] (q := 89) (L' := [some (.ref a0), some (.int (gi w3 a0 0)), some (.int (gi w3 r4 3)), some (.int ((gi w12 r4 3) - (gi w3 r4 3))), none]) (st' := [.int (gi w12 a0 3), .int (gi w12 a0 1), .int ((gi w12 r4 3) - (gi w3 r4 3)), .ref a0]) (v1 := w12) (by decide +kernel) rfl ⟨h1, h1, trivial⟩ ?_
      refine sc_ri (pc3 := 92) (cf_V (idx := 93) (ci := 4) [.int ((gi w12 r4 3) - (gi w3 r4 3)), .int (gi w12 a0 1), .int (gi w12 a0 3)] m_st_valueOf (by decide) ⟨by decide, by decide⟩ (List.mem_of_getElem? (i := 714) (by decide +kernel)) rfl (Nat.le_of_ble_eq_true rfl) h1 (by decide +kernel) (Nat.le_of_ble_eq_true rfl) rfl) (ok_st_valueOf a0 ((gi w12 r4 3) - (gi w3 r4 3)) (gi w12 a0 1) (gi w12 a0 3) S w12) rfl (fun x13 => ?_)
      refine sim_seg [(.istore 4, 0, 0, 0)] [] (q := 94) (L' := [some (.ref a0), some (.int (gi w3 a0 0)), some (.int (gi w3 r4 3)), some (.int ((gi w12 r4 3) - (gi w3 r4 3))), some (.int x13)]) (st' := []) (v1 := w12) (by decide +kernel) rfl trivial ?_
      refine sim_seg [(.aload_n 0, 0, 0, 0)] [] (q := 95) (L' := [some (.ref a0), some (.int (gi w3 a0 0)), some (.int (gi w3 r4 3)), some (.int ((gi w12 r4 3) - (gi w3 r4 3))), some (.int x13)]) (st' := [.ref a0]) (v1 := w12) (by decide +kernel) rfl trivial ?_
      refine sim_grd fun h14 => ?_
      refine sim_new (idx := 25) (ci := 1) (pc3 := 98) (by decide) (by decide +kernel) (List.mem_of_getElem? (i := 240) (by decide +kernel)) (List.mem_of_getElem? (i := 719) (by decide +kernel)) (List.mem_of_getElem? (i := 114) (by decide +kernel)) rfl h14 (fun S15 r16 v17 h18 h19 => ?_)
      refine sim_grd fun h20 => ?_
      refine sim_seg [(.dup, 0, 0, 0), (.iconst 0, 0, 0, 0), (.iload_n 1, 0, 0, 0), (.aload_n 0, 0, 0, 0), (.getfield 34, 4, 0, 0), (.iload_n 3, 0, 0, 0), (.iload 4, 0, 0, 0), (.aload_n 0, 0, 0, 0), (.getfield 38, 4, 1, 0), (.aload_n 0, 0, 0, 0), (.getfield 44, 4, 3, 0)] [] (q := 116) (L' := [some (.ref a0), some (.int (gi w3 a0 0)), some (.int (gi w3 r4 3)), some (.int ((gi w12 r4 3) - (gi w3 r4 3))), some (.int x13)]) (st' := [.int (gi v17 a0 3), .int (gi v17 a0 1), .int x13, .int ((gi w12 r4 3) - (gi w3 r4 3)), .int (gi v17 a0 0), .int (gi w3 a0 0), .int (J 0), .ref r16, .ref r16, .ref a0]) (v1 := v17) (by decide +kernel) rfl ⟨h20, h20, h20, trivial⟩ ?_
      refine sc_pv (pc3 := 119) (cf_I (idx := 97) [.int (J 0), .int (gi w3 a0 0), .int (gi v17 a0 0), .int ((gi w12 r4 3) - (gi w3 r4 3)), .int x13, .int (gi v17 a0 1), .int (gi v17 a0 3)] m_ms_init ⟨by decide, by decide⟩ (List.mem_of_getElem? (i := 720) (by decide +kernel)) rfl (Nat.le_of_ble_eq_true rfl) (by decide +kernel) (Nat.le_of_ble_eq_true rfl) rfl) (ok_ms_init r16 (J 0) (gi w3 a0 0) (gi v17 a0 0) ((gi w12 r4 3) - (gi w3 r4 3)) x13 (gi v17 a0 1) (gi v17 a0 3) S15 v17) rfl (fun w21 => ?_)
      refine sc_gv (pc3 := 122) (cf_V (idx := 100) (ci := 4) [.ref r16] m_st_keep (by decide) ⟨by decide, by decide⟩ (List.mem_of_getElem? (i := 752) (by decide +kernel)) rfl (Nat.le_of_ble_eq_true rfl) h20 (by decide +kernel) (Nat.le_of_ble_eq_true rfl) rfl) (ok_st_keep N a0 r16 S15 w21) rfl (fun S22 w23 h24 => ?_)
      refine sim_seg [(.iconst 0, 0, 0, 0)] [] (q := 123) (L' := [some (.ref a0), some (.int (gi w3 a0 0)), some (.int (gi w3 r4 3)), some (.int ((gi w12 r4 3) - (gi w3 r4 3))), some (.int x13)]) (st' := [.int (J 0)]) (v1 := w23) (by decide +kernel) rfl trivial ?_
      exact sim_iret (by decide +kernel) rfl rfl rfl
def B_ck_timeOfAging : bd := (⟨"GateCounter$Clock", "timeOfAging", "()I"⟩, prog_2_method_10_code, 1, (some .int), [], 0, 1)
theorem m_ck_timeOfAging : mV B_ck_timeOfAging 0 0 := ⟨⟨⟨by decide +kernel, Or.inl rfl⟩, rfl, (List.mem_of_getElem? (i := 670) (by decide +kernel)), by decide +kernel, (List.mem_of_getElem? (i := 98) (by decide +kernel)), ⟨by decide, by decide⟩, by decide⟩, rfl, (by unfold nar; decide +kernel), (List.mem_of_getElem? (i := 669) (by decide +kernel)), rfl, (List.mem_of_getElem? (i := 18) (by decide +kernel))⟩
noncomputable def F_ck_timeOfAging (a0 : Nat) (S : shp) (v : vl) : Option Int32 :=
  grd (kin S a0 = some (0, 0)) <| (F_ma_floorDiv ((gi v a0 3) + ((J 99) * (gi v a0 1))) (J 1000) S v).bind fun x2 => some ((((gi v a0 4) + ((J 99) * (gi v a0 0))) + x2))
theorem ok_ck_timeOfAging (a0 : Nat) (S : shp) (v : vl) : SimK B_ck_timeOfAging 0 (entB (bN B_ck_timeOfAging) [.ref a0]) [] S v (F_ck_timeOfAging a0 S v) (ρri S v) := by
  show SimK B_ck_timeOfAging 0 [some (.ref a0)] [] S v (F_ck_timeOfAging a0 S v) _
  unfold F_ck_timeOfAging
  refine sim_grd fun h1 => ?_
  refine sim_seg [(.aload_n 0, 0, 0, 0), (.getfield 24, 0, 4, 0), (.bipush 99, 0, 0, 99), (.aload_n 0, 0, 0, 0), (.getfield 11, 0, 0, 0), (.imul, 0, 0, 0), (.iadd, 0, 0, 0), (.aload_n 0, 0, 0, 0), (.getfield 21, 0, 3, 0), (.bipush 99, 0, 0, 99), (.aload_n 0, 0, 0, 0), (.getfield 15, 0, 1, 0)] [] (q := 22) (L' := [some (.ref a0)]) (st' := [.int (gi v a0 1), .int (J 99), .int (gi v a0 3), .int ((gi v a0 4) + ((J 99) * (gi v a0 0)))]) (v1 := v) (by decide +kernel) rfl ⟨h1, h1, h1, h1, trivial⟩ ?_
  refine sim_seg [(.imul, 0, 0, 0), (.iadd, 0, 0, 0), (.sipush 1000, 0, 0, 1000)] [] (q := 27) (L' := [some (.ref a0)]) (st' := [.int (J 1000), .int ((gi v a0 3) + ((J 99) * (gi v a0 1))), .int ((gi v a0 4) + ((J 99) * (gi v a0 0)))]) (v1 := v) (by decide +kernel) rfl trivial ?_
  refine sc_ri (pc3 := 30) (cf_S (idx := 41) [.int ((gi v a0 3) + ((J 99) * (gi v a0 1))), .int (J 1000)] m_ma_floorDiv ⟨by decide, by decide⟩ (List.mem_of_getElem? (i := 671) (by decide +kernel)) rfl (Nat.le_of_ble_eq_true rfl) (by decide +kernel) (Nat.le_of_ble_eq_true rfl) rfl) (ok_ma_floorDiv ((gi v a0 3) + ((J 99) * (gi v a0 1))) (J 1000) S v) rfl (fun x2 => ?_)
  refine sim_seg [(.iadd, 0, 0, 0)] [] (q := 31) (L' := [some (.ref a0)]) (st' := [.int (((gi v a0 4) + ((J 99) * (gi v a0 0))) + x2)]) (v1 := v) (by decide +kernel) rfl trivial ?_
  exact sim_iret (by decide +kernel) rfl rfl rfl
def B_ck_passTo : bd := (⟨"GateCounter$Clock", "passTo", "(I)V"⟩, prog_2_method_8_code, 3, none, [], 0, 3)
theorem m_ck_passTo : mV B_ck_passTo 0 1 := ⟨⟨⟨by decide +kernel, Or.inl rfl⟩, rfl, (List.mem_of_getElem? (i := 665) (by decide +kernel)), by decide +kernel, (List.mem_of_getElem? (i := 98) (by decide +kernel)), ⟨by decide, by decide⟩, by decide⟩, rfl, (by unfold nar; decide +kernel), (List.mem_of_getElem? (i := 663) (by decide +kernel)), rfl, (List.mem_of_getElem? (i := 664) (by decide +kernel))⟩
noncomputable def Y_ck_passTo_2 (N : Nat)  (i2 : vl → Nat → Int32 → Int32 → Option vl) (S : shp) (v : vl) (p0 : Nat) (p1 : Int32) (p2 : Int32) : Option vl :=
  (if p2 < (J 2000000) then grd (kin S p0 = some (0, 0)) <| (if p1 < (gi v p0 4) then some (v) else (if ((gi v p0 5) - (gi v p0 5) / (J 100) * (J 100)) = (J 0) then (F_ck_timeOfAging p0 S v).bind fun x2 => (if p1 < x2 then (F_ck_tick p0 S v).bind fun w3 => i2 w3 p0 p1 (p2 + (J 1)) else (F_ck_leap p0 S v).bind fun w4 => (F_ck_tick p0 S w4).bind fun w5 => i2 w5 p0 p1 (p2 + (J 1))) else (F_ck_tick p0 S v).bind fun w6 => i2 w6 p0 p1 (p2 + (J 1)))) else some (v))
noncomputable def K_ck_passTo_2 (N : Nat)  (n : Nat) (S : shp) : vl → Nat → Int32 → Int32 → Option vl :=
  Nat.rec (motive := fun _ => vl → Nat → Int32 → Int32 → Option vl) (fun _ _ _ _ => none) (fun _ i => Y_ck_passTo_2 N  i S) n
theorem sY_ck_passTo_2 (N : Nat)  (i2 : vl → Nat → Int32 → Int32 → Option vl) (S : shp)  (j2 : ∀ (v : vl) (p0 : Nat) (p1 : Int32) (p2 : Int32), SimK B_ck_passTo 2 [some (.ref p0), some (.int p1), some (.int p2)] [] S v (i2 v p0 p1 p2) (ρpv S)) (v : vl) (p0 : Nat) (p1 : Int32) (p2 : Int32) : SimK B_ck_passTo 2 [some (.ref p0), some (.int p1), some (.int p2)] [] S v (Y_ck_passTo_2 N  i2 S v p0 p1 p2) (ρpv S) := by
  unfold Y_ck_passTo_2
  refine sim_seg [(.iload_n 2, 0, 0, 0), (.ldc 56, 0, 0, 2000000)] [] (q := 5) (L' := [some (.ref p0), some (.int p1), some (.int p2)]) (st' := [.int (J 2000000), .int p2]) (v1 := v) (by decide +kernel) rfl trivial ?_
  refine sim_ge (o := 43) (tg := 48) (f := 8) (by decide +kernel) rfl rfl (fun _ => ?_) (fun _ => ?_)
  · refine sim_grd fun h1 => ?_
    refine sim_seg [(.aload_n 0, 0, 0, 0), (.getfield 24, 0, 4, 0), (.iload_n 1, 0, 0, 0)] [] (q := 13) (L' := [some (.ref p0), some (.int p1), some (.int p2)]) (st' := [.int p1, .int (gi v p0 4)]) (v1 := v) (by decide +kernel) rfl ⟨h1, trivial⟩ ?_
    refine sim_gt (o := 35) (tg := 48) (f := 16) (by decide +kernel) rfl rfl (fun _ => ?_) (fun _ => ?_)
    · exact sim_vret (by decide +kernel) rfl rfl
    · refine sim_seg [(.aload_n 0, 0, 0, 0), (.getfield 27, 0, 5, 0), (.bipush 100, 0, 0, 100), (.irem, 0, 0, 0)] [] (q := 23) (L' := [some (.ref p0), some (.int p1), some (.int p2)]) (st' := [.int ((gi v p0 5) - (gi v p0 5) / (J 100) * (J 100))]) (v1 := v) (by decide +kernel) rfl ⟨h1, (by decide), trivial⟩ ?_
      refine sim_ne0 (o := 15) (tg := 38) (f := 26) (by decide +kernel) rfl rfl (fun _ => ?_) (fun _ => ?_)
      · refine sim_seg [(.aload_n 0, 0, 0, 0)] [] (q := 27) (L' := [some (.ref p0), some (.int p1), some (.int p2)]) (st' := [.ref p0]) (v1 := v) (by decide +kernel) rfl trivial ?_
        refine sc_ri (pc3 := 30) (cf_V (idx := 57) (ci := 0) [] m_ck_timeOfAging (by decide) ⟨by decide, by decide⟩ (List.mem_of_getElem? (i := 667) (by decide +kernel)) rfl (Nat.le_of_ble_eq_true rfl) h1 (by decide +kernel) (Nat.le_of_ble_eq_true rfl) rfl) (ok_ck_timeOfAging p0 S v) rfl (fun x2 => ?_)
        refine sim_seg [(.iload_n 1, 0, 0, 0)] [] (q := 31) (L' := [some (.ref p0), some (.int p1), some (.int p2)]) (st' := [.int p1, .int x2]) (v1 := v) (by decide +kernel) rfl trivial ?_
        refine sim_gt (o := 7) (tg := 38) (f := 34) (by decide +kernel) rfl rfl (fun _ => ?_) (fun _ => ?_)
        · refine sim_seg [(.aload_n 0, 0, 0, 0)] [] (q := 39) (L' := [some (.ref p0), some (.int p1), some (.int p2)]) (st' := [.ref p0]) (v1 := v) (by decide +kernel) rfl trivial ?_
          refine sc_pv (pc3 := 42) (cf_V (idx := 53) (ci := 0) [] m_ck_tick (by decide) ⟨by decide, by decide⟩ (List.mem_of_getElem? (i := 685) (by decide +kernel)) rfl (Nat.le_of_ble_eq_true rfl) h1 (by decide +kernel) (Nat.le_of_ble_eq_true rfl) rfl) (ok_ck_tick p0 S v) rfl (fun w3 => ?_)
          refine sim_seg [(.iinc 2 1, 0, 0, 1)] [] (q := 45) (L' := [some (.ref p0), some (.int p1), some (.int (p2 + (J 1)))]) (st' := []) (v1 := w3) (by decide +kernel) rfl trivial ?_
          refine sim_seg [(.goto (-43), 0, 0, 0)] [] (q := 2) (L' := [some (.ref p0), some (.int p1), some (.int (p2 + (J 1)))]) (st' := []) (v1 := w3) (by decide +kernel) rfl trivial ?_
          exact j2 w3 p0 p1 (p2 + (J 1))
        · refine sim_seg [(.aload_n 0, 0, 0, 0)] [] (q := 35) (L' := [some (.ref p0), some (.int p1), some (.int p2)]) (st' := [.ref p0]) (v1 := v) (by decide +kernel) rfl trivial ?_
          refine sc_pv (pc3 := 38) (cf_V (idx := 50) (ci := 0) [] m_ck_leap (by decide) ⟨by decide, by decide⟩ (List.mem_of_getElem? (i := 674) (by decide +kernel)) rfl (Nat.le_of_ble_eq_true rfl) h1 (by decide +kernel) (Nat.le_of_ble_eq_true rfl) rfl) (ok_ck_leap p0 S v) rfl (fun w4 => ?_)
          refine sim_seg [(.aload_n 0, 0, 0, 0)] [] (q := 39) (L' := [some (.ref p0), some (.int p1), some (.int p2)]) (st' := [.ref p0]) (v1 := w4) (by decide +kernel) rfl trivial ?_
          refine sc_pv (pc3 := 42) (cf_V (idx := 53) (ci := 0) [] m_ck_tick (by decide) ⟨by decide, by decide⟩ (List.mem_of_getElem? (i := 685) (by decide +kernel)) rfl (Nat.le_of_ble_eq_true rfl) h1 (by decide +kernel) (Nat.le_of_ble_eq_true rfl) rfl) (ok_ck_tick p0 S w4) rfl (fun w5 => ?_)
          refine sim_seg [(.iinc 2 1, 0, 0, 1)] [] (q := 45) (L' := [some (.ref p0), some (.int p1), some (.int (p2 + (J 1)))]) (st' := []) (v1 := w5) (by decide +kernel) rfl trivial ?_
          refine sim_seg [(.goto (-43), 0, 0, 0)] [] (q := 2) (L' := [some (.ref p0), some (.int p1), some (.int (p2 + (J 1)))]) (st' := []) (v1 := w5) (by decide +kernel) rfl trivial ?_
          exact j2 w5 p0 p1 (p2 + (J 1))
      · refine sim_seg [(.aload_n 0, 0, 0, 0)] [] (q := 39) (L' := [some (.ref p0), some (.int p1), some (.int p2)]) (st' := [.ref p0]) (v1 := v) (by decide +kernel) rfl trivial ?_
        refine sc_pv (pc3 := 42) (cf_V (idx := 53) (ci := 0) [] m_ck_tick (by decide) ⟨by decide, by decide⟩ (List.mem_of_getElem? (i := 685) (by decide +kernel)) rfl (Nat.le_of_ble_eq_true rfl) h1 (by decide +kernel) (Nat.le_of_ble_eq_true rfl) rfl) (ok_ck_tick p0 S v) rfl (fun w6 => ?_)
        refine sim_seg [(.iinc 2 1, 0, 0, 1)] [] (q := 45) (L' := [some (.ref p0), some (.int p1), some (.int (p2 + (J 1)))]) (st' := []) (v1 := w6) (by decide +kernel) rfl trivial ?_
        refine sim_seg [(.goto (-43), 0, 0, 0)] [] (q := 2) (L' := [some (.ref p0), some (.int p1), some (.int (p2 + (J 1)))]) (st' := []) (v1 := w6) (by decide +kernel) rfl trivial ?_
        exact j2 w6 p0 p1 (p2 + (J 1))
  · exact sim_vret (by decide +kernel) rfl rfl
theorem sR_ck_passTo_2 (N : Nat)  (S : shp)  (n : Nat) : ∀ (v : vl) (p0 : Nat) (p1 : Int32) (p2 : Int32), SimK B_ck_passTo 2 [some (.ref p0), some (.int p1), some (.int p2)] [] S v (K_ck_passTo_2 N  n S v p0 p1 p2) (ρpv S) := by
  induction n with
  | zero => intro v p0 p1 p2; exact sim_none
  | succ k ih => intro v p0 p1 p2; exact sY_ck_passTo_2 N   _ S  ih v p0 p1 p2
theorem sK_ck_passTo_2 (N : Nat)  (n : Nat) (S : shp) (v : vl) (p0 : Nat) (p1 : Int32) (p2 : Int32) : SimK B_ck_passTo 2 [some (.ref p0), some (.int p1), some (.int p2)] [] S v (K_ck_passTo_2 N  n S v p0 p1 p2) (ρpv S) := sR_ck_passTo_2 N   S  n  v p0 p1 p2
noncomputable def F_ck_passTo (N : Nat) (a0 : Nat) (b1 : Int32) (S : shp) (v : vl) : Option vl :=
  K_ck_passTo_2 N  N S v a0 b1 (J 0)
theorem ok_ck_passTo (N : Nat) (a0 : Nat) (b1 : Int32) (S : shp) (v : vl) : SimK B_ck_passTo 0 (entB (bN B_ck_passTo) [.ref a0, .int b1]) [] S v (F_ck_passTo N a0 b1 S v) (ρpv S) := by
  show SimK B_ck_passTo 0 [some (.ref a0), some (.int b1), none] [] S v (F_ck_passTo N a0 b1 S v) _
  unfold F_ck_passTo
  refine sim_seg [(.iconst 0, 0, 0, 0), (.istore_n 2, 0, 0, 0)] [] (q := 2) (L' := [some (.ref a0), some (.int b1), some (.int (J 0))]) (st' := []) (v1 := v) (by decide +kernel) rfl trivial ?_
  exact sK_ck_passTo_2 N N S v a0 b1 (J 0)
def B_sg_reasonForNoEnd : bd := (⟨"GateCounter$Signal", "reasonForNoEnd", "()I"⟩, prog_5_method_17_code, 2, (some .int), [], 3, 0)
theorem m_sg_reasonForNoEnd : mV B_sg_reasonForNoEnd 3 0 := ⟨⟨⟨by decide +kernel, Or.inl rfl⟩, rfl, (List.mem_of_getElem? (i := 661) (by decide +kernel)), by decide +kernel, (List.mem_of_getElem? (i := 99) (by decide +kernel)), ⟨by decide, by decide⟩, by decide⟩, rfl, (by unfold nar; decide +kernel), (List.mem_of_getElem? (i := 659) (by decide +kernel)), rfl, (List.mem_of_getElem? (i := 660) (by decide +kernel))⟩
noncomputable def F_sg_reasonForNoEnd (a0 : Nat) (S : shp) (v : vl) : Option Int32 :=
  grd (kin S a0 = some (0, 3)) <| (if (gi v a0 9) < (gi v a0 8) then (gr S a0 11).bind fun r2 => grd (kin S r2 = some (1, 8)) <| grd (vp_in ((gi v a0 8) - (J 1)) (alen S r2)) <| lt (gi v r2 (Int32.toNatClampNeg ((gi v a0 8) - (J 1)))) fun x6 => (if (J 0) < x6 then some ((J 1)) else some ((J 2))) else (if (J 0) < (gi v a0 0) then some ((J 1)) else some ((J 2))))
theorem ok_sg_reasonForNoEnd (a0 : Nat) (S : shp) (v : vl) : SimK B_sg_reasonForNoEnd 0 (entB (bN B_sg_reasonForNoEnd) [.ref a0]) [] S v (F_sg_reasonForNoEnd a0 S v) (ρri S v) := by
  show SimK B_sg_reasonForNoEnd 0 [some (.ref a0), none] [] S v (F_sg_reasonForNoEnd a0 S v) _
  unfold F_sg_reasonForNoEnd
  refine sim_grd fun h1 => ?_
  refine sim_seg [(.aload_n 0, 0, 0, 0), (.getfield 38, 3, 9, 0), (.aload_n 0, 0, 0, 0), (.getfield 35, 3, 8, 0)] [] (q := 8) (L' := [some (.ref a0), none]) (st' := [.int (gi v a0 8), .int (gi v a0 9)]) (v1 := v) (by decide +kernel) rfl ⟨h1, h1, trivial⟩ ?_
  refine sim_ge (o := 17) (tg := 25) (f := 11) (by decide +kernel) rfl rfl (fun _ => ?_) (fun _ => ?_)
  · refine sim_bind fun r2 h3 => ?_
    refine sim_grd fun h4 => ?_
    refine sim_grd fun h5 => ?_
    refine sim_seg [(.aload_n 0, 0, 0, 0), (.getfield 15, 3, 11, 0), (.aload_n 0, 0, 0, 0), (.getfield 35, 3, 8, 0), (.iconst 1, 0, 0, 1), (.isub, 0, 0, 0), (.iaload, 0, 0, 0), (.goto 7, 0, 0, 0), (.istore_n 1, 0, 0, 0)] [r2] (q := 30) (L' := [some (.ref a0), some (.int (gi v r2 (Int32.toNatClampNeg ((gi v a0 8) - (J 1)))))]) (st' := []) (v1 := v) (by decide +kernel) rfl ⟨⟨h1, h3⟩, h1, ⟨(Or.inl (kin_alen h4)), h5⟩, trivial⟩ ?_
    refine sim_nm (gi v r2 (Int32.toNatClampNeg ((gi v a0 8) - (J 1)))) (fun x6 => [some (.ref a0), some (.int x6)]) (fun x6 => []) (fun x6 => ?_) rfl rfl
    refine sim_seg [(.iload_n 1, 0, 0, 0)] [] (q := 31) (L' := [some (.ref a0), some (.int x6)]) (st' := [.int x6]) (v1 := v) (by decide +kernel) rfl trivial ?_
    refine sim_le0 (o := 7) (tg := 38) (f := 34) (by decide +kernel) rfl rfl (fun _ => ?_) (fun _ => ?_)
    · refine sim_seg [(.iconst 1, 0, 0, 1), (.goto 4, 0, 0, 0)] [] (q := 39) (L' := [some (.ref a0), some (.int x6)]) (st' := [.int (J 1)]) (v1 := v) (by decide +kernel) rfl trivial ?_
      exact sim_iret (by decide +kernel) rfl rfl rfl
    · refine sim_seg [(.iconst 2, 0, 0, 2)] [] (q := 39) (L' := [some (.ref a0), some (.int x6)]) (st' := [.int (J 2)]) (v1 := v) (by decide +kernel) rfl trivial ?_
      exact sim_iret (by decide +kernel) rfl rfl rfl
  · refine sim_seg [(.aload_n 0, 0, 0, 0), (.getfield 18, 3, 0, 0), (.istore_n 1, 0, 0, 0)] [] (q := 30) (L' := [some (.ref a0), some (.int (gi v a0 0))]) (st' := []) (v1 := v) (by decide +kernel) rfl ⟨h1, trivial⟩ ?_
    refine sim_seg [(.iload_n 1, 0, 0, 0)] [] (q := 31) (L' := [some (.ref a0), some (.int (gi v a0 0))]) (st' := [.int (gi v a0 0)]) (v1 := v) (by decide +kernel) rfl trivial ?_
    refine sim_le0 (o := 7) (tg := 38) (f := 34) (by decide +kernel) rfl rfl (fun _ => ?_) (fun _ => ?_)
    · refine sim_seg [(.iconst 1, 0, 0, 1), (.goto 4, 0, 0, 0)] [] (q := 39) (L' := [some (.ref a0), some (.int (gi v a0 0))]) (st' := [.int (J 1)]) (v1 := v) (by decide +kernel) rfl trivial ?_
      exact sim_iret (by decide +kernel) rfl rfl rfl
    · refine sim_seg [(.iconst 2, 0, 0, 2)] [] (q := 39) (L' := [some (.ref a0), some (.int (gi v a0 0))]) (st' := [.int (J 2)]) (v1 := v) (by decide +kernel) rfl trivial ?_
      exact sim_iret (by decide +kernel) rfl rfl rfl
def B_sg_passTo : bd := (⟨"GateCounter$Signal", "passTo", "(I)V"⟩, prog_5_method_9_code, 2, none, [], 3, 3)
theorem m_sg_passTo : mV B_sg_passTo 3 1 := ⟨⟨⟨by decide +kernel, Or.inl rfl⟩, rfl, (List.mem_of_getElem? (i := 705) (by decide +kernel)), by decide +kernel, (List.mem_of_getElem? (i := 99) (by decide +kernel)), ⟨by decide, by decide⟩, by decide⟩, rfl, (by unfold nar; decide +kernel), (List.mem_of_getElem? (i := 703) (by decide +kernel)), rfl, (List.mem_of_getElem? (i := 704) (by decide +kernel))⟩
noncomputable def F_sg_passTo (N : Nat) (a0 : Nat) (b1 : Int32) (S : shp) (v : vl) : Option vl :=
  grd (kin S a0 = some (0, 3)) <| (F_sg_pass N a0 b1 b1 S v).bind fun w2 => some (w2)
theorem ok_sg_passTo (N : Nat) (a0 : Nat) (b1 : Int32) (S : shp) (v : vl) : SimK B_sg_passTo 0 (entB (bN B_sg_passTo) [.ref a0, .int b1]) [] S v (F_sg_passTo N a0 b1 S v) (ρpv S) := by
  show SimK B_sg_passTo 0 [some (.ref a0), some (.int b1)] [] S v (F_sg_passTo N a0 b1 S v) _
  unfold F_sg_passTo
  refine sim_seg [(.aload_n 0, 0, 0, 0), (.iload_n 1, 0, 0, 0), (.iload_n 1, 0, 0, 0)] [] (q := 3) (L' := [some (.ref a0), some (.int b1)]) (st' := [.int b1, .int b1, .ref a0]) (v1 := v) (by decide +kernel) rfl trivial ?_
  refine sim_grd fun h1 => ?_
  refine sc_pv (pc3 := 6) (cf_V (idx := 59) (ci := 3) [.int b1, .int b1] m_sg_pass (by decide) ⟨by decide, by decide⟩ (List.mem_of_getElem? (i := 706) (by decide +kernel)) rfl (Nat.le_of_ble_eq_true rfl) h1 (by decide +kernel) (Nat.le_of_ble_eq_true rfl) rfl) (ok_sg_pass N a0 b1 b1 S v) rfl (fun w2 => ?_)
  exact sim_vret (by decide +kernel) rfl rfl
def B_st_passTo : bd := (⟨"GateCounter$State", "passTo", "(I)V"⟩, prog_6_method_4_code, 2, none, [], 4, 4)
theorem m_st_passTo : mV B_st_passTo 4 1 := ⟨⟨⟨by decide +kernel, Or.inl rfl⟩, rfl, (List.mem_of_getElem? (i := 701) (by decide +kernel)), by decide +kernel, (List.mem_of_getElem? (i := 97) (by decide +kernel)), ⟨by decide, by decide⟩, by decide⟩, rfl, (by unfold nar; decide +kernel), (List.mem_of_getElem? (i := 699) (by decide +kernel)), rfl, (List.mem_of_getElem? (i := 700) (by decide +kernel))⟩
noncomputable def F_st_passTo (N : Nat) (a0 : Nat) (b1 : Int32) (S : shp) (v : vl) : Option vl :=
  grd (kin S a0 = some (0, 4)) <| (gr S a0 6).bind fun r2 => grd (kin S r2 = some (0, 0)) <| (F_ck_passTo N r2 b1 S v).bind fun w5 => (gr S a0 7).bind fun r6 => grd (kin S r6 = some (0, 3)) <| (F_sg_passTo N r6 b1 S w5).bind fun w9 => lt (si w9 a0 0 b1) fun w10 => some (w10)
theorem ok_st_passTo (N : Nat) (a0 : Nat) (b1 : Int32) (S : shp) (v : vl) : SimK B_st_passTo 0 (entB (bN B_st_passTo) [.ref a0, .int b1]) [] S v (F_st_passTo N a0 b1 S v) (ρpv S) := by
  show SimK B_st_passTo 0 [some (.ref a0), some (.int b1)] [] S v (F_st_passTo N a0 b1 S v) _
  unfold F_st_passTo
  refine sim_grd fun h1 => ?_
  refine sim_bind fun r2 h3 => ?_
  refine sim_seg [(.aload_n 0, 0, 0, 0), (.getfield 12, 4, 6, 0), (.iload_n 1, 0, 0, 0)] [r2] (q := 5) (L' := [some (.ref a0), some (.int b1)]) (st' := [.int b1, .ref r2]) (v1 := v) (by decide +kernel) rfl ⟨⟨h1, h3⟩, trivial⟩ ?_
  refine sim_grd fun h4 => ?_
  refine sc_pv (pc3 := 8) (cf_V (idx := 65) (ci := 0) [.int b1] m_ck_passTo (by decide) ⟨by decide, by decide⟩ (List.mem_of_getElem? (i := 662) (by decide +kernel)) rfl (Nat.le_of_ble_eq_true rfl) h4 (by decide +kernel) (Nat.le_of_ble_eq_true rfl) rfl) (ok_ck_passTo N r2 b1 S v) rfl (fun w5 => ?_)
  refine sim_bind fun r6 h7 => ?_
  refine sim_seg [(.aload_n 0, 0, 0, 0), (.getfield 21, 4, 7, 0), (.iload_n 1, 0, 0, 0)] [r6] (q := 13) (L' := [some (.ref a0), some (.int b1)]) (st' := [.int b1, .ref r6]) (v1 := w5) (by decide +kernel) rfl ⟨⟨h1, h7⟩, trivial⟩ ?_
  refine sim_grd fun h8 => ?_
  refine sc_pv (pc3 := 16) (cf_V (idx := 69) (ci := 3) [.int b1] m_sg_passTo (by decide) ⟨by decide, by decide⟩ (List.mem_of_getElem? (i := 702) (by decide +kernel)) rfl (Nat.le_of_ble_eq_true rfl) h8 (by decide +kernel) (Nat.le_of_ble_eq_true rfl) rfl) (ok_sg_passTo N r6 b1 S w5) rfl (fun w9 => ?_)
  refine sim_seg [(.aload_n 0, 0, 0, 0), (.iload_n 1, 0, 0, 0), (.putfield 34, 4, 0, 0)] [] (q := 21) (L' := [some (.ref a0), some (.int b1)]) (st' := []) (v1 := (si w9 a0 0 b1)) (by decide +kernel) rfl ⟨h1, trivial⟩ ?_
  refine sim_lt (x := (si w9 a0 0 b1)) ?_
  generalize (si w9 a0 0 b1) = w10
  exact sim_vret (by decide +kernel) rfl rfl
def B_st_measureByPeriod : bd := (⟨"GateCounter$State", "measureByPeriod", "()I"⟩, prog_6_method_7_code, 6, (some .int), [], 4, 5)
theorem m_st_measureByPeriod : mV B_st_measureByPeriod 4 0 := ⟨⟨⟨by decide +kernel, Or.inl rfl⟩, rfl, (List.mem_of_getElem? (i := 656) (by decide +kernel)), by decide +kernel, (List.mem_of_getElem? (i := 97) (by decide +kernel)), ⟨by decide, by decide⟩, by decide⟩, rfl, (by unfold nar; decide +kernel), (List.mem_of_getElem? (i := 654) (by decide +kernel)), rfl, (List.mem_of_getElem? (i := 655) (by decide +kernel))⟩
noncomputable def F_st_measureByPeriod (N : Nat) (a0 : Nat) (S : shp) (v : vl) : Option (Int32 × shp × vl) :=
  grd (kin S a0 = some (0, 4)) <| (gr S a0 7).bind fun r2 => grd (kin S r2 = some (0, 3)) <| (F_sg_timeOfOutput N r2 (J 1) S v).bind fun x5 => (F_sg_timeOfOutput N r2 ((J 1) + (gi v a0 2)) S v).bind fun x6 => (if x6 = (J (-1)) then (F_sg_reasonForNoEnd r2 S v).bind fun x7 => some ((x7, S, v)) else (gr S a0 6).bind fun r8 => grd (kin S r8 = some (0, 0)) <| (F_ck_passTo N r8 x5 S v).bind fun w11 => (F_st_passTo N a0 x6 S w11).bind fun w12 => lt ((gi w12 r8 5) - (gi w11 r8 5)) fun x13 => (if x13 = (J 0) then some (((J 3), S, w12)) else (F_st_valueOf a0 (gi w12 a0 2) x13 (gi w12 a0 3) S w12).bind fun x14 => grd (kin S (nxt S) = none) <| lt3 (grow S (0, 1) (fTN 1).2.1) (nxt S) (zero w12 (nxt S)) fun S16 r17 v18 => grd (kin S16 a0 = some (0, 4)) <| (F_ms_init r17 (J 1) x5 x6 x13 x14 (gi v18 a0 2) (gi v18 a0 3) S16 v18).bind fun w22 => (F_st_keep N a0 r17 S16 w22).bind fun (S23, w24) => some (((J 0), S23, w24))))
theorem ok_st_measureByPeriod (N : Nat) (a0 : Nat) (S : shp) (v : vl) : SimK B_st_measureByPeriod 0 (entB (bN B_st_measureByPeriod) [.ref a0]) [] S v (F_st_measureByPeriod N a0 S v) (ρgi) := by
  show SimK B_st_measureByPeriod 0 [some (.ref a0), none, none, none, none, none] [] S v (F_st_measureByPeriod N a0 S v) _
  unfold F_st_measureByPeriod
  refine sim_grd fun h1 => ?_
  refine sim_bind fun r2 h3 => ?_
  refine sim_seg [(.aload_n 0, 0, 0, 0), (.getfield 21, 4, 7, 0), (.iconst 1, 0, 0, 1)] [r2] (q := 5) (L' := [some (.ref a0), none, none, none, none, none]) (st' := [.int (J 1), .ref r2]) (v1 := v) (by decide +kernel) rfl ⟨⟨h1, h3⟩, trivial⟩ ?_
  refine sim_grd fun h4 => ?_
  refine sc_ri (pc3 := 8) (cf_V (idx := 104) (ci := 3) [.int (J 1)] m_sg_timeOfOutput (by decide) ⟨by decide, by decide⟩ (List.mem_of_getElem? (i := 657) (by decide +kernel)) rfl (Nat.le_of_ble_eq_true rfl) h4 (by decide +kernel) (Nat.le_of_ble_eq_true rfl) rfl) (ok_sg_timeOfOutput N r2 (J 1) S v) rfl (fun x5 => ?_)
  refine sim_seg [(.istore_n 1, 0, 0, 0)] [] (q := 9) (L' := [some (.ref a0), some (.int x5), none, none, none, none]) (st' := []) (v1 := v) (by decide +kernel) rfl trivial ?_
  refine sim_seg [(.aload_n 0, 0, 0, 0), (.getfield 21, 4, 7, 0), (.iconst 1, 0, 0, 1), (.aload_n 0, 0, 0, 0), (.getfield 41, 4, 2, 0), (.iadd, 0, 0, 0)] [r2] (q := 19) (L' := [some (.ref a0), some (.int x5), none, none, none, none]) (st' := [.int ((J 1) + (gi v a0 2)), .ref r2]) (v1 := v) (by decide +kernel) rfl ⟨⟨h1, h3⟩, h1, trivial⟩ ?_
  refine sc_ri (pc3 := 22) (cf_V (idx := 104) (ci := 3) [.int ((J 1) + (gi v a0 2))] m_sg_timeOfOutput (by decide) ⟨by decide, by decide⟩ (List.mem_of_getElem? (i := 657) (by decide +kernel)) rfl (Nat.le_of_ble_eq_true rfl) h4 (by decide +kernel) (Nat.le_of_ble_eq_true rfl) rfl) (ok_sg_timeOfOutput N r2 ((J 1) + (gi v a0 2)) S v) rfl (fun x6 => ?_)
  refine sim_seg [(.istore_n 2, 0, 0, 0)] [] (q := 23) (L' := [some (.ref a0), some (.int x5), some (.int x6), none, none, none]) (st' := []) (v1 := v) (by decide +kernel) rfl trivial ?_
  refine sim_seg [(.iload_n 2, 0, 0, 0), (.iconst (-1), 0, 0, (-1))] [] (q := 25) (L' := [some (.ref a0), some (.int x5), some (.int x6), none, none, none]) (st' := [.int (J (-1)), .int x6]) (v1 := v) (by decide +kernel) rfl trivial ?_
  refine sim_ne (o := 11) (tg := 36) (f := 28) (by decide +kernel) rfl rfl (fun _ => ?_) (fun _ => ?_)
  · refine sim_seg [(.aload_n 0, 0, 0, 0), (.getfield 21, 4, 7, 0)] [r2] (q := 32) (L' := [some (.ref a0), some (.int x5), some (.int x6), none, none, none]) (st' := [.ref r2]) (v1 := v) (by decide +kernel) rfl ⟨⟨h1, h3⟩, trivial⟩ ?_
    refine sc_ri (pc3 := 35) (cf_V (idx := 108) (ci := 3) [] m_sg_reasonForNoEnd (by decide) ⟨by decide, by decide⟩ (List.mem_of_getElem? (i := 658) (by decide +kernel)) rfl (Nat.le_of_ble_eq_true rfl) h4 (by decide +kernel) (Nat.le_of_ble_eq_true rfl) rfl) (ok_sg_reasonForNoEnd r2 S v) rfl (fun x7 => ?_)
    exact sim_iret (by decide +kernel) rfl rfl rfl
  · refine sim_bind fun r8 h9 => ?_
    refine sim_seg [(.aload_n 0, 0, 0, 0), (.getfield 12, 4, 6, 0), (.iload_n 1, 0, 0, 0)] [r8] (q := 41) (L' := [some (.ref a0), some (.int x5), some (.int x6), none, none, none]) (st' := [.int x5, .ref r8]) (v1 := v) (by decide +kernel) rfl ⟨⟨h1, h9⟩, trivial⟩ ?_
    refine sim_grd fun h10 => ?_
    refine sc_pv (pc3 := 44) (cf_V (idx := 65) (ci := 0) [.int x5] m_ck_passTo (by decide) ⟨by decide, by decide⟩ (List.mem_of_getElem? (i := 662) (by decide +kernel)) rfl (Nat.le_of_ble_eq_true rfl) h10 (by decide +kernel) (Nat.le_of_ble_eq_true rfl) rfl) (ok_ck_passTo N r8 x5 S v) rfl (fun w11 => ?_)
    refine sim_seg [(.aload_n 0, 0, 0, 0), (.getfield 12, 4, 6, 0), (.getfield 112, 0, 5, 0), (.istore_n 3, 0, 0, 0)] [r8] (q := 52) (L' := [some (.ref a0), some (.int x5), some (.int x6), some (.int (gi w11 r8 5)), none, none]) (st' := []) (v1 := w11) (by decide +kernel) rfl ⟨⟨h1, h9⟩, h10, trivial⟩ ?_
    refine sim_seg [(.aload_n 0, 0, 0, 0), (.iload_n 2, 0, 0, 0)] [] (q := 54) (L' := [some (.ref a0), some (.int x5), some (.int x6), some (.int (gi w11 r8 5)), none, none]) (st' := [.int x6, .ref a0]) (v1 := w11) (by decide +kernel) rfl trivial ?_
    refine sc_pv (pc3 := 57) (cf_V (idx := 115) (ci := 4) [.int x6] m_st_passTo (by decide) ⟨by decide, by decide⟩ (List.mem_of_getElem? (i := 698) (by decide +kernel)) rfl (Nat.le_of_ble_eq_true rfl) h1 (by decide +kernel) (Nat.le_of_ble_eq_true rfl) rfl) (ok_st_passTo N a0 x6 S w11) rfl (fun w12 => ?_)
    refine sim_seg [(.aload_n 0, 0, 0, 0), (.getfield 12, 4, 6, 0), (.getfield 112, 0, 5, 0), (.iload_n 3, 0, 0, 0), (.isub, 0, 0, 0), (.istore 4, 0, 0, 0)] [r8] (q := 68) (L' := [some (.ref a0), some (.int x5), some (.int x6), some (.int (gi w11 r8 5)), some (.int ((gi w12 r8 5) - (gi w11 r8 5))), none]) (st' := []) (v1 := w12) (by decide +kernel) rfl ⟨⟨h1, h9⟩, h10, trivial⟩ ?_
    refine sim_nm ((gi w12 r8 5) - (gi w11 r8 5)) (fun x13 => [some (.ref a0), some (.int x5), some (.int x6), some (.int (gi w11 r8 5)), some (.int x13), none]) (fun x13 => []) (fun x13 => ?_) rfl rfl
    refine sim_seg [(.iload 4, 0, 0, 0)] [] (q := 70) (L' := [some (.ref a0), some (.int x5), some (.int x6), some (.int (gi w11 r8 5)), some (.int x13), none]) (st' := [.int x13]) (v1 := w12) (by decide +kernel) rfl trivial ?_
    refine sim_ne0 (o := 5) (tg := 75) (f := 73) (by decide +kernel) rfl rfl (fun _ => ?_) (fun _ => ?_)
    · refine sim_seg [(.iconst 3, 0, 0, 3)] [] (q := 74) (L' := [some (.ref a0), some (.int x5), some (.int x6), some (.int (gi w11 r8 5)), some (.int x13), none]) (st' := [.int (J 3)]) (v1 := w12) (by decide +kernel) rfl trivial ?_
      exact sim_iret (by decide +kernel) rfl rfl rfl
    · refine sim_seg [(.aload_n 0, 0, 0, 0), (.aload_n 0, 0, 0, 0), (.getfield 41, 4, 2, 0), (.iload 4, 0, 0, 0), (.aload_n 0, 0, 0, 0), (.getfield 44, 4, 3, 0)] [] (q := 86) (L' := [some (.ref a0), some (.int x5), some (.int x6), some (.int (gi w11 r8 5)), some (.int x13), none]) (st' := [.int (gi w12 a0 3), .int x13, .int (gi w12 a0 2), .ref a0]) (v1 := w12) (by decide +kernel) rfl ⟨h1, h1, trivial⟩ ?_
      refine sc_ri (pc3 := 89) (cf_V (idx := 93) (ci := 4) [.int (gi w12 a0 2), .int x13, .int (gi w12 a0 3)] m_st_valueOf (by decide) ⟨by decide, by decide⟩ (List.mem_of_getElem? (i := 714) (by decide +kernel)) rfl (Nat.le_of_ble_eq_true rfl) h1 (by decide +kernel) (Nat.le_of_ble_eq_true rfl) rfl) (ok_st_valueOf a0 (gi w12 a0 2) x13 (gi w12 a0 3) S w12) rfl (fun x14 => ?_)
      refine sim_seg [(.istore 5, 0, 0, 0)] [] (q := 91) (L' := [some (.ref a0), some (.int x5), some (.int x6), some (.int (gi w11 r8 5)), some (.int x13), some (.int x14)]) (st' := []) (v1 := w12) (by decide +kernel) rfl trivial ?_
      refine sim_seg [(.aload_n 0, 0, 0, 0)] [] (q := 92) (L' := [some (.ref a0), some (.int x5), some (.int x6), some (.int (gi w11 r8 5)), some (.int x13), some (.int x14)]) (st' := [.ref a0]) (v1 := w12) (by decide +kernel) rfl trivial ?_
      refine sim_grd fun h15 => ?_
      refine sim_new (idx := 25) (ci := 1) (pc3 := 95) (by decide) (by decide +kernel) (List.mem_of_getElem? (i := 240) (by decide +kernel)) (List.mem_of_getElem? (i := 719) (by decide +kernel)) (List.mem_of_getElem? (i := 114) (by decide +kernel)) rfl h15 (fun S16 r17 v18 h19 h20 => ?_)
      refine sim_grd fun h21 => ?_
      refine sim_seg [(.dup, 0, 0, 0), (.iconst 1, 0, 0, 1), (.iload_n 1, 0, 0, 0), (.iload_n 2, 0, 0, 0), (.iload 4, 0, 0, 0), (.iload 5, 0, 0, 0), (.aload_n 0, 0, 0, 0), (.getfield 41, 4, 2, 0), (.aload_n 0, 0, 0, 0), (.getfield 44, 4, 3, 0)] [] (q := 111) (L' := [some (.ref a0), some (.int x5), some (.int x6), some (.int (gi w11 r8 5)), some (.int x13), some (.int x14)]) (st' := [.int (gi v18 a0 3), .int (gi v18 a0 2), .int x14, .int x13, .int x6, .int x5, .int (J 1), .ref r17, .ref r17, .ref a0]) (v1 := v18) (by decide +kernel) rfl ⟨h21, h21, trivial⟩ ?_
      refine sc_pv (pc3 := 114) (cf_I (idx := 97) [.int (J 1), .int x5, .int x6, .int x13, .int x14, .int (gi v18 a0 2), .int (gi v18 a0 3)] m_ms_init ⟨by decide, by decide⟩ (List.mem_of_getElem? (i := 720) (by decide +kernel)) rfl (Nat.le_of_ble_eq_true rfl) (by decide +kernel) (Nat.le_of_ble_eq_true rfl) rfl) (ok_ms_init r17 (J 1) x5 x6 x13 x14 (gi v18 a0 2) (gi v18 a0 3) S16 v18) rfl (fun w22 => ?_)
      refine sc_gv (pc3 := 117) (cf_V (idx := 100) (ci := 4) [.ref r17] m_st_keep (by decide) ⟨by decide, by decide⟩ (List.mem_of_getElem? (i := 752) (by decide +kernel)) rfl (Nat.le_of_ble_eq_true rfl) h21 (by decide +kernel) (Nat.le_of_ble_eq_true rfl) rfl) (ok_st_keep N a0 r17 S16 w22) rfl (fun S23 w24 h25 => ?_)
      refine sim_seg [(.iconst 0, 0, 0, 0)] [] (q := 118) (L' := [some (.ref a0), some (.int x5), some (.int x6), some (.int (gi w11 r8 5)), some (.int x13), some (.int x14)]) (st' := [.int (J 0)]) (v1 := w24) (by decide +kernel) rfl trivial ?_
      exact sim_iret (by decide +kernel) rfl rfl rfl
def B_gc_idealValue : bd := (⟨"GateCounter", "idealValue", "(Z)I"⟩, prog_1_method_30_code, 4, (some .int), [], 5, 6)
theorem m_gc_idealValue : mV B_gc_idealValue 5 1 := ⟨⟨⟨by decide +kernel, Or.inl rfl⟩, rfl, (List.mem_of_getElem? (i := 644) (by decide +kernel)), by decide +kernel, (List.mem_of_getElem? (i := 95) (by decide +kernel)), ⟨by decide, by decide⟩, by decide⟩, rfl, (by unfold nar; decide +kernel), (List.mem_of_getElem? (i := 642) (by decide +kernel)), rfl, (List.mem_of_getElem? (i := 643) (by decide +kernel))⟩
noncomputable def F_gc_idealValue (N : Nat) (a0 : Nat) (b1 : Int32) (S : shp) (v : vl) : Option (Int32 × shp × vl) :=
  grd (kin S a0 = some (0, 5)) <| (gr S a0 6).bind fun r2 => (F_gc_fresh N a0 r2 S v).bind fun (q4, S5, w6) => oc2 q4 none fun r8 => grd (kin S5 r8 = some (0, 4)) <| (gr S5 r8 6).bind fun r10 => grd (kin S5 r10 = some (0, 0)) <| (F_ck_steady r10 S5 w6).bind fun w13 => lt (si w13 r8 3 (J 0)) fun w14 => (if b1 = (J 0) then (F_st_measureByGate N r8 S5 w14).bind fun (x15, S16, w17) => (if x15 = (J 0) then (F_st_latestNumber N r8 (J 4) S16 w17).bind fun x19 => some ((x19, S16, w17)) else some (((J (-1)), S16, w17))) else (F_st_measureByPeriod N r8 S5 w14).bind fun (x20, S21, w22) => (if x20 = (J 0) then (F_st_latestNumber N r8 (J 4) S21 w22).bind fun x24 => some ((x24, S21, w22)) else some (((J (-1)), S21, w22))))
theorem ok_gc_idealValue (N : Nat) (a0 : Nat) (b1 : Int32) (S : shp) (v : vl) : SimK B_gc_idealValue 0 (entB (bN B_gc_idealValue) [.ref a0, .int b1]) [] S v (F_gc_idealValue N a0 b1 S v) (ρgi) := by
  show SimK B_gc_idealValue 0 [some (.ref a0), some (.int b1), none, none] [] S v (F_gc_idealValue N a0 b1 S v) _
  unfold F_gc_idealValue
  refine sim_grd fun h1 => ?_
  refine sim_bind fun r2 h3 => ?_
  refine sim_seg [(.aload_n 0, 0, 0, 0), (.aload_n 0, 0, 0, 0), (.getfield 30, 5, 6, 0)] [r2] (q := 5) (L' := [some (.ref a0), some (.int b1), none, none]) (st' := [.ref r2, .ref a0]) (v1 := v) (by decide +kernel) rfl ⟨⟨h1, h3⟩, trivial⟩ ?_
  refine sc_gq (pc3 := 8) (cf_V (idx := 196) (ci := 5) [.ref r2] m_gc_fresh (by decide) ⟨by decide, by decide⟩ (List.mem_of_getElem? (i := 645) (by decide +kernel)) rfl (Nat.le_of_ble_eq_true rfl) h1 (by decide +kernel) (Nat.le_of_ble_eq_true rfl) rfl) (ok_gc_fresh N a0 r2 S v) rfl (fun q4 S5 w6 h7 => ?_)
  refine sim_oc2 (fun _ => sim_none) (fun r8 _ => ?_)
  refine sim_seg [(.astore_n 2, 0, 0, 0)] [] (q := 9) (L' := [some (.ref a0), some (.int b1), some (.ref r8), none]) (st' := []) (v1 := w6) (by decide +kernel) rfl trivial ?_
  refine sim_grd fun h9 => ?_
  refine sim_bind fun r10 h11 => ?_
  refine sim_seg [(.aload_n 2, 0, 0, 0), (.getfield 87, 4, 6, 0)] [r10] (q := 13) (L' := [some (.ref a0), some (.int b1), some (.ref r8), none]) (st' := [.ref r10]) (v1 := w6) (by decide +kernel) rfl ⟨⟨h9, h11⟩, trivial⟩ ?_
  refine sim_grd fun h12 => ?_
  refine sc_pv (pc3 := 16) (cf_V (idx := 243) (ci := 0) [] m_ck_steady (by decide) ⟨by decide, by decide⟩ (List.mem_of_getElem? (i := 649) (by decide +kernel)) rfl (Nat.le_of_ble_eq_true rfl) h12 (by decide +kernel) (Nat.le_of_ble_eq_true rfl) rfl) (ok_ck_steady r10 S5 w6) rfl (fun w13 => ?_)
  refine sim_seg [(.aload_n 2, 0, 0, 0), (.iconst 0, 0, 0, 0), (.putfield 130, 4, 3, 0), (.iload_n 1, 0, 0, 0)] [] (q := 22) (L' := [some (.ref a0), some (.int b1), some (.ref r8), none]) (st' := [.int b1]) (v1 := (si w13 r8 3 (J 0))) (by decide +kernel) rfl ⟨h9, trivial⟩ ?_
  refine sim_lt (x := (si w13 r8 3 (J 0))) ?_
  generalize (si w13 r8 3 (J 0)) = w14
  refine sim_eq0 (o := 10) (tg := 32) (f := 25) (by decide +kernel) rfl rfl (fun _ => ?_) (fun _ => ?_)
  · refine sim_seg [(.aload_n 2, 0, 0, 0)] [] (q := 33) (L' := [some (.ref a0), some (.int b1), some (.ref r8), none]) (st' := [.ref r8]) (v1 := w14) (by decide +kernel) rfl trivial ?_
    refine sc_gi (pc3 := 36) (cf_V (idx := 232) (ci := 4) [] m_st_measureByGate (by decide) ⟨by decide, by decide⟩ (List.mem_of_getElem? (i := 761) (by decide +kernel)) rfl (Nat.le_of_ble_eq_true rfl) h9 (by decide +kernel) (Nat.le_of_ble_eq_true rfl) rfl) (ok_st_measureByGate N r8 S5 w14) rfl (fun x15 S16 w17 h18 => ?_)
    refine sim_seg [(.istore_n 3, 0, 0, 0)] [] (q := 37) (L' := [some (.ref a0), some (.int b1), some (.ref r8), some (.int x15)]) (st' := []) (v1 := w17) (by decide +kernel) rfl trivial ?_
    refine sim_seg [(.iload_n 3, 0, 0, 0)] [] (q := 38) (L' := [some (.ref a0), some (.int b1), some (.ref r8), some (.int x15)]) (st' := [.int x15]) (v1 := w17) (by decide +kernel) rfl trivial ?_
    refine sim_ne0 (o := 11) (tg := 49) (f := 41) (by decide +kernel) rfl rfl (fun _ => ?_) (fun _ => ?_)
    · refine sim_seg [(.aload_n 2, 0, 0, 0), (.iconst 4, 0, 0, 4)] [] (q := 43) (L' := [some (.ref a0), some (.int b1), some (.ref r8), some (.int x15)]) (st' := [.int (J 4), .ref r8]) (v1 := w17) (by decide +kernel) rfl trivial ?_
      refine sc_ri (pc3 := 46) (cf_V (idx := 235) (ci := 4) [.int (J 4)] m_st_latestNumber (by decide) ⟨by decide, by decide⟩ (List.mem_of_getElem? (i := 779) (by decide +kernel)) rfl (Nat.le_of_ble_eq_true rfl) (h18.2.2.2.2 _ _ h9) (by decide +kernel) (Nat.le_of_ble_eq_true rfl) rfl) (ok_st_latestNumber N r8 (J 4) S16 w17) rfl (fun x19 => ?_)
      refine sim_seg [(.goto 4, 0, 0, 0)] [] (q := 50) (L' := [some (.ref a0), some (.int b1), some (.ref r8), some (.int x15)]) (st' := [.int x19]) (v1 := w17) (by decide +kernel) rfl trivial ?_
      exact sim_iret (by decide +kernel) rfl rfl rfl
    · refine sim_seg [(.iconst (-1), 0, 0, (-1))] [] (q := 50) (L' := [some (.ref a0), some (.int b1), some (.ref r8), some (.int x15)]) (st' := [.int (J (-1))]) (v1 := w17) (by decide +kernel) rfl trivial ?_
      exact sim_iret (by decide +kernel) rfl rfl rfl
  · refine sim_seg [(.aload_n 2, 0, 0, 0)] [] (q := 26) (L' := [some (.ref a0), some (.int b1), some (.ref r8), none]) (st' := [.ref r8]) (v1 := w14) (by decide +kernel) rfl trivial ?_
    refine sc_gi (pc3 := 29) (cf_V (idx := 238) (ci := 4) [] m_st_measureByPeriod (by decide) ⟨by decide, by decide⟩ (List.mem_of_getElem? (i := 653) (by decide +kernel)) rfl (Nat.le_of_ble_eq_true rfl) h9 (by decide +kernel) (Nat.le_of_ble_eq_true rfl) rfl) (ok_st_measureByPeriod N r8 S5 w14) rfl (fun x20 S21 w22 h23 => ?_)
    refine sim_seg [(.goto 7, 0, 0, 0), (.istore_n 3, 0, 0, 0)] [] (q := 37) (L' := [some (.ref a0), some (.int b1), some (.ref r8), some (.int x20)]) (st' := []) (v1 := w22) (by decide +kernel) rfl trivial ?_
    refine sim_seg [(.iload_n 3, 0, 0, 0)] [] (q := 38) (L' := [some (.ref a0), some (.int b1), some (.ref r8), some (.int x20)]) (st' := [.int x20]) (v1 := w22) (by decide +kernel) rfl trivial ?_
    refine sim_ne0 (o := 11) (tg := 49) (f := 41) (by decide +kernel) rfl rfl (fun _ => ?_) (fun _ => ?_)
    · refine sim_seg [(.aload_n 2, 0, 0, 0), (.iconst 4, 0, 0, 4)] [] (q := 43) (L' := [some (.ref a0), some (.int b1), some (.ref r8), some (.int x20)]) (st' := [.int (J 4), .ref r8]) (v1 := w22) (by decide +kernel) rfl trivial ?_
      refine sc_ri (pc3 := 46) (cf_V (idx := 235) (ci := 4) [.int (J 4)] m_st_latestNumber (by decide) ⟨by decide, by decide⟩ (List.mem_of_getElem? (i := 779) (by decide +kernel)) rfl (Nat.le_of_ble_eq_true rfl) (h23.2.2.2.2 _ _ h9) (by decide +kernel) (Nat.le_of_ble_eq_true rfl) rfl) (ok_st_latestNumber N r8 (J 4) S21 w22) rfl (fun x24 => ?_)
      refine sim_seg [(.goto 4, 0, 0, 0)] [] (q := 50) (L' := [some (.ref a0), some (.int b1), some (.ref r8), some (.int x20)]) (st' := [.int x24]) (v1 := w22) (by decide +kernel) rfl trivial ?_
      exact sim_iret (by decide +kernel) rfl rfl rfl
    · refine sim_seg [(.iconst (-1), 0, 0, (-1))] [] (q := 50) (L' := [some (.ref a0), some (.int b1), some (.ref r8), some (.int x20)]) (st' := [.int (J (-1))]) (v1 := w22) (by decide +kernel) rfl trivial ?_
      exact sim_iret (by decide +kernel) rfl rfl rfl
def B_gc_apart : bd := (⟨"GateCounter", "apart", "()I"⟩, prog_1_method_32_code, 1, (some .int), [], 5, 6)
theorem m_gc_apart : mV B_gc_apart 5 0 := ⟨⟨⟨by decide +kernel, Or.inl rfl⟩, rfl, (List.mem_of_getElem? (i := 798) (by decide +kernel)), by decide +kernel, (List.mem_of_getElem? (i := 95) (by decide +kernel)), ⟨by decide, by decide⟩, by decide⟩, rfl, (by unfold nar; decide +kernel), (List.mem_of_getElem? (i := 796) (by decide +kernel)), rfl, (List.mem_of_getElem? (i := 797) (by decide +kernel))⟩
noncomputable def F_gc_apart (N : Nat) (a0 : Nat) (S : shp) (v : vl) : Option (Int32 × shp × vl) :=
  grd (kin S a0 = some (0, 5)) <| (gr S a0 6).bind fun r2 => (F_gc_fresh N a0 r2 S v).bind fun (q4, S5, w6) => oc2 q4 none fun r8 => grd (kin S5 r8 = some (0, 4)) <| (F_st_measureByGate N r8 S5 w6).bind fun (x10, S11, w12) => (if x10 = (J 0) then (gr S11 a0 7).bind fun r14 => (F_gc_fresh N a0 r14 S11 w12).bind fun (q16, S17, w18) => oc2 q16 none fun r20 => grd (kin S17 r20 = some (0, 4)) <| (F_st_measureByPeriod N r20 S17 w18).bind fun (x22, S23, w24) => (if x22 = (J 0) then (gr S23 a0 6).bind fun r26 => grd (kin S23 r26 = some (0, 4)) <| (F_st_latestNumber N r26 (J 4) S23 w24).bind fun x29 => (gr S23 a0 7).bind fun r30 => grd (kin S23 r30 = some (0, 4)) <| (F_st_latestNumber N r30 (J 4) S23 w24).bind fun x33 => (F_ma_abs (x29 - x33) S23 w24).bind fun x34 => some ((x34, S23, w24)) else some (((J (-1)), S23, w24))) else some (((J (-1)), S11, w12)))
theorem ok_gc_apart (N : Nat) (a0 : Nat) (S : shp) (v : vl) : SimK B_gc_apart 0 (entB (bN B_gc_apart) [.ref a0]) [] S v (F_gc_apart N a0 S v) (ρgi) := by
  show SimK B_gc_apart 0 [some (.ref a0)] [] S v (F_gc_apart N a0 S v) _
  unfold F_gc_apart
  refine sim_grd fun h1 => ?_
  refine sim_bind fun r2 h3 => ?_
  refine sim_seg [(.aload_n 0, 0, 0, 0), (.aload_n 0, 0, 0, 0), (.getfield 30, 5, 6, 0)] [r2] (q := 5) (L' := [some (.ref a0)]) (st' := [.ref r2, .ref a0]) (v1 := v) (by decide +kernel) rfl ⟨⟨h1, h3⟩, trivial⟩ ?_
  refine sc_gq (pc3 := 8) (cf_V (idx := 196) (ci := 5) [.ref r2] m_gc_fresh (by decide) ⟨by decide, by decide⟩ (List.mem_of_getElem? (i := 645) (by decide +kernel)) rfl (Nat.le_of_ble_eq_true rfl) h1 (by decide +kernel) (Nat.le_of_ble_eq_true rfl) rfl) (ok_gc_fresh N a0 r2 S v) rfl (fun q4 S5 w6 h7 => ?_)
  refine sim_oc2 (fun _ => sim_none) (fun r8 _ => ?_)
  refine sim_grd fun h9 => ?_
  refine sc_gi (pc3 := 11) (cf_V (idx := 232) (ci := 4) [] m_st_measureByGate (by decide) ⟨by decide, by decide⟩ (List.mem_of_getElem? (i := 761) (by decide +kernel)) rfl (Nat.le_of_ble_eq_true rfl) h9 (by decide +kernel) (Nat.le_of_ble_eq_true rfl) rfl) (ok_st_measureByGate N r8 S5 w6) rfl (fun x10 S11 w12 h13 => ?_)
  refine sim_ne0 (o := 17) (tg := 28) (f := 14) (by decide +kernel) rfl rfl (fun _ => ?_) (fun _ => ?_)
  · refine sim_bind fun r14 h15 => ?_
    refine sim_seg [(.aload_n 0, 0, 0, 0), (.aload_n 0, 0, 0, 0), (.getfield 33, 5, 7, 0)] [r14] (q := 19) (L' := [some (.ref a0)]) (st' := [.ref r14, .ref a0]) (v1 := w12) (by decide +kernel) rfl ⟨⟨(h13.2.2.2.2 _ _ (h7.2.2.2.2 _ _ h1)), h15⟩, trivial⟩ ?_
    refine sc_gq (pc3 := 22) (cf_V (idx := 196) (ci := 5) [.ref r14] m_gc_fresh (by decide) ⟨by decide, by decide⟩ (List.mem_of_getElem? (i := 645) (by decide +kernel)) rfl (Nat.le_of_ble_eq_true rfl) (h13.2.2.2.2 _ _ (h7.2.2.2.2 _ _ h1)) (by decide +kernel) (Nat.le_of_ble_eq_true rfl) rfl) (ok_gc_fresh N a0 r14 S11 w12) rfl (fun q16 S17 w18 h19 => ?_)
    refine sim_oc2 (fun _ => sim_none) (fun r20 _ => ?_)
    refine sim_grd fun h21 => ?_
    refine sc_gi (pc3 := 25) (cf_V (idx := 238) (ci := 4) [] m_st_measureByPeriod (by decide) ⟨by decide, by decide⟩ (List.mem_of_getElem? (i := 653) (by decide +kernel)) rfl (Nat.le_of_ble_eq_true rfl) h21 (by decide +kernel) (Nat.le_of_ble_eq_true rfl) rfl) (ok_st_measureByPeriod N r20 S17 w18) rfl (fun x22 S23 w24 h25 => ?_)
    refine sim_eq0 (o := 5) (tg := 30) (f := 28) (by decide +kernel) rfl rfl (fun _ => ?_) (fun _ => ?_)
    · refine sim_bind fun r26 h27 => ?_
      refine sim_seg [(.aload_n 0, 0, 0, 0), (.getfield 30, 5, 6, 0), (.iconst 4, 0, 0, 4)] [r26] (q := 35) (L' := [some (.ref a0)]) (st' := [.int (J 4), .ref r26]) (v1 := w24) (by decide +kernel) rfl ⟨⟨(h25.2.2.2.2 _ _ (h19.2.2.2.2 _ _ (h13.2.2.2.2 _ _ (h7.2.2.2.2 _ _ h1)))), h27⟩, trivial⟩ ?_
      refine sim_grd fun h28 => ?_
      refine sc_ri (pc3 := 38) (cf_V (idx := 235) (ci := 4) [.int (J 4)] m_st_latestNumber (by decide) ⟨by decide, by decide⟩ (List.mem_of_getElem? (i := 779) (by decide +kernel)) rfl (Nat.le_of_ble_eq_true rfl) h28 (by decide +kernel) (Nat.le_of_ble_eq_true rfl) rfl) (ok_st_latestNumber N r26 (J 4) S23 w24) rfl (fun x29 => ?_)
      refine sim_bind fun r30 h31 => ?_
      refine sim_seg [(.aload_n 0, 0, 0, 0), (.getfield 33, 5, 7, 0), (.iconst 4, 0, 0, 4)] [r30] (q := 43) (L' := [some (.ref a0)]) (st' := [.int (J 4), .ref r30, .int x29]) (v1 := w24) (by decide +kernel) rfl ⟨⟨(h25.2.2.2.2 _ _ (h19.2.2.2.2 _ _ (h13.2.2.2.2 _ _ (h7.2.2.2.2 _ _ h1)))), h31⟩, trivial⟩ ?_
      refine sim_grd fun h32 => ?_
      refine sc_ri (pc3 := 46) (cf_V (idx := 235) (ci := 4) [.int (J 4)] m_st_latestNumber (by decide) ⟨by decide, by decide⟩ (List.mem_of_getElem? (i := 779) (by decide +kernel)) rfl (Nat.le_of_ble_eq_true rfl) h32 (by decide +kernel) (Nat.le_of_ble_eq_true rfl) rfl) (ok_st_latestNumber N r30 (J 4) S23 w24) rfl (fun x33 => ?_)
      refine sim_seg [(.isub, 0, 0, 0)] [] (q := 47) (L' := [some (.ref a0)]) (st' := [.int (x29 - x33)]) (v1 := w24) (by decide +kernel) rfl trivial ?_
      refine sc_ri (pc3 := 50) (cf_S (idx := 249) [.int (x29 - x33)] m_ma_abs ⟨by decide, by decide⟩ (List.mem_of_getElem? (i := 799) (by decide +kernel)) rfl (Nat.le_of_ble_eq_true rfl) (by decide +kernel) (Nat.le_of_ble_eq_true rfl) rfl) (ok_ma_abs (x29 - x33) S23 w24) rfl (fun x34 => ?_)
      exact sim_iret (by decide +kernel) rfl rfl rfl
    · refine sim_seg [(.iconst (-1), 0, 0, (-1))] [] (q := 29) (L' := [some (.ref a0)]) (st' := [.int (J (-1))]) (v1 := w24) (by decide +kernel) rfl trivial ?_
      exact sim_iret (by decide +kernel) rfl rfl rfl
  · refine sim_seg [(.iconst (-1), 0, 0, (-1))] [] (q := 29) (L' := [some (.ref a0)]) (st' := [.int (J (-1))]) (v1 := w12) (by decide +kernel) rfl trivial ?_
    exact sim_iret (by decide +kernel) rfl rfl rfl
def B_gc_longestGate : bd := (⟨"GateCounter", "longestGate", "()I"⟩, prog_1_method_35_code, 3, (some .int), [], 5, 5)
theorem m_gc_longestGate : mV B_gc_longestGate 5 0 := ⟨⟨⟨by decide +kernel, Or.inl rfl⟩, rfl, (List.mem_of_getElem? (i := 805) (by decide +kernel)), by decide +kernel, (List.mem_of_getElem? (i := 95) (by decide +kernel)), ⟨by decide, by decide⟩, by decide⟩, rfl, (by unfold nar; decide +kernel), (List.mem_of_getElem? (i := 803) (by decide +kernel)), rfl, (List.mem_of_getElem? (i := 804) (by decide +kernel))⟩
noncomputable def Y_gc_longestGate_20 (N : Nat)  (i20 : shp → vl → Nat → Int32 → Int32 → Option (Int32 × shp × vl))  (S : shp) (v : vl) (p0 : Nat) (p1 : Int32) (p2 : Int32) : Option (Int32 × shp × vl) :=
  (if (J 9999) < p2 then some ((p1, S, v)) else grd (kin S p0 = some (0, 5)) <| (gr S p0 6).bind fun r13 => grd (kin S r13 = some (0, 4)) <| (F_st_toClockEdge N r13 S v).bind fun (x16, w17) => (if x16 = (J 0) then some ((p1, S, w17)) else i20 S w17 p0 p2 (p2 + (J 1))))
noncomputable def K_gc_longestGate_20 (N : Nat)  (n : Nat)  : shp → vl → Nat → Int32 → Int32 → Option (Int32 × shp × vl) :=
  Nat.rec (motive := fun _ => shp → vl → Nat → Int32 → Int32 → Option (Int32 × shp × vl)) (fun _ _ _ _ _ => none) (fun _ i => Y_gc_longestGate_20 N  i ) n
theorem sY_gc_longestGate_20 (N : Nat)  (i20 : shp → vl → Nat → Int32 → Int32 → Option (Int32 × shp × vl))   (j20 : ∀ (S : shp) (v : vl) (p0 : Nat) (p1 : Int32) (p2 : Int32), SimK B_gc_longestGate 20 [some (.ref p0), some (.int p1), some (.int p2)] [] S v (i20 S v p0 p1 p2) (ρgi)) (S : shp) (v : vl) (p0 : Nat) (p1 : Int32) (p2 : Int32) : SimK B_gc_longestGate 20 [some (.ref p0), some (.int p1), some (.int p2)] [] S v (Y_gc_longestGate_20 N  i20  S v p0 p1 p2) (ρgi) := by
  unfold Y_gc_longestGate_20
  refine sim_seg [(.iload_n 2, 0, 0, 0), (.sipush 9999, 0, 0, 9999)] [] (q := 24) (L' := [some (.ref p0), some (.int p1), some (.int p2)]) (st' := [.int (J 9999), .int p2]) (v1 := v) (by decide +kernel) rfl trivial ?_
  refine sim_gt (o := 21) (tg := 45) (f := 27) (by decide +kernel) rfl rfl (fun _ => ?_) (fun _ => ?_)
  · refine sim_seg [(.iload_n 1, 0, 0, 0)] [] (q := 46) (L' := [some (.ref p0), some (.int p1), some (.int p2)]) (st' := [.int p1]) (v1 := v) (by decide +kernel) rfl trivial ?_
    exact sim_iret (by decide +kernel) rfl rfl rfl
  · refine sim_grd fun h12 => ?_
    refine sim_bind fun r13 h14 => ?_
    refine sim_seg [(.aload_n 0, 0, 0, 0), (.getfield 30, 5, 6, 0)] [r13] (q := 31) (L' := [some (.ref p0), some (.int p1), some (.int p2)]) (st' := [.ref r13]) (v1 := v) (by decide +kernel) rfl ⟨⟨h12, h14⟩, trivial⟩ ?_
    refine sim_grd fun h15 => ?_
    refine sc_pi (pc3 := 34) (cf_V (idx := 252) (ci := 4) [] m_st_toClockEdge (by decide) ⟨by decide, by decide⟩ (List.mem_of_getElem? (i := 806) (by decide +kernel)) rfl (Nat.le_of_ble_eq_true rfl) h15 (by decide +kernel) (Nat.le_of_ble_eq_true rfl) rfl) (ok_st_toClockEdge N r13 S v) rfl (fun x16 w17 => ?_)
    refine sim_eq0 (o := 11) (tg := 45) (f := 37) (by decide +kernel) rfl rfl (fun _ => ?_) (fun _ => ?_)
    · refine sim_seg [(.iload_n 1, 0, 0, 0)] [] (q := 46) (L' := [some (.ref p0), some (.int p1), some (.int p2)]) (st' := [.int p1]) (v1 := w17) (by decide +kernel) rfl trivial ?_
      exact sim_iret (by decide +kernel) rfl rfl rfl
    · refine sim_seg [(.iload_n 2, 0, 0, 0), (.istore_n 1, 0, 0, 0)] [] (q := 39) (L' := [some (.ref p0), some (.int p2), some (.int p2)]) (st' := []) (v1 := w17) (by decide +kernel) rfl trivial ?_
      refine sim_seg [(.iinc 2 1, 0, 0, 1)] [] (q := 42) (L' := [some (.ref p0), some (.int p2), some (.int (p2 + (J 1)))]) (st' := []) (v1 := w17) (by decide +kernel) rfl trivial ?_
      refine sim_seg [(.goto (-22), 0, 0, 0)] [] (q := 20) (L' := [some (.ref p0), some (.int p2), some (.int (p2 + (J 1)))]) (st' := []) (v1 := w17) (by decide +kernel) rfl trivial ?_
      exact j20 S w17 p0 p2 (p2 + (J 1))
theorem sR_gc_longestGate_20 (N : Nat)    (n : Nat) : ∀ (S : shp) (v : vl) (p0 : Nat) (p1 : Int32) (p2 : Int32), SimK B_gc_longestGate 20 [some (.ref p0), some (.int p1), some (.int p2)] [] S v (K_gc_longestGate_20 N  n  S v p0 p1 p2) (ρgi) := by
  induction n with
  | zero => intro S v p0 p1 p2; exact sim_none
  | succ k ih => intro S v p0 p1 p2; exact sY_gc_longestGate_20 N   _   ih S v p0 p1 p2
theorem sK_gc_longestGate_20 (N : Nat)   (n : Nat) (S : shp) (v : vl) (p0 : Nat) (p1 : Int32) (p2 : Int32) : SimK B_gc_longestGate 20 [some (.ref p0), some (.int p1), some (.int p2)] [] S v (K_gc_longestGate_20 N  n  S v p0 p1 p2) (ρgi) := sR_gc_longestGate_20 N    n  S v p0 p1 p2
noncomputable def F_gc_longestGate (N : Nat) (a0 : Nat) (S : shp) (v : vl) : Option (Int32 × shp × vl) :=
  grd (kin S a0 = some (0, 5)) <| (gr S a0 6).bind fun r2 => (F_gc_fresh N a0 r2 S v).bind fun (q4, S5, w6) => oc2 q4 none fun r8 => grd (kin S5 r8 = some (0, 4)) <| (F_st_toClockEdge N r8 S5 w6).bind fun (x10, w11) => (if x10 = (J 0) then some (((J (-1)), S5, w11)) else K_gc_longestGate_20 N  N S5 w11 a0 (J (-1)) (J 1))
theorem ok_gc_longestGate (N : Nat) (a0 : Nat) (S : shp) (v : vl) : SimK B_gc_longestGate 0 (entB (bN B_gc_longestGate) [.ref a0]) [] S v (F_gc_longestGate N a0 S v) (ρgi) := by
  show SimK B_gc_longestGate 0 [some (.ref a0), none, none] [] S v (F_gc_longestGate N a0 S v) _
  unfold F_gc_longestGate
  refine sim_grd fun h1 => ?_
  refine sim_bind fun r2 h3 => ?_
  refine sim_seg [(.aload_n 0, 0, 0, 0), (.aload_n 0, 0, 0, 0), (.getfield 30, 5, 6, 0)] [r2] (q := 5) (L' := [some (.ref a0), none, none]) (st' := [.ref r2, .ref a0]) (v1 := v) (by decide +kernel) rfl ⟨⟨h1, h3⟩, trivial⟩ ?_
  refine sc_gq (pc3 := 8) (cf_V (idx := 196) (ci := 5) [.ref r2] m_gc_fresh (by decide) ⟨by decide, by decide⟩ (List.mem_of_getElem? (i := 645) (by decide +kernel)) rfl (Nat.le_of_ble_eq_true rfl) h1 (by decide +kernel) (Nat.le_of_ble_eq_true rfl) rfl) (ok_gc_fresh N a0 r2 S v) rfl (fun q4 S5 w6 h7 => ?_)
  refine sim_oc2 (fun _ => sim_none) (fun r8 _ => ?_)
  refine sim_grd fun h9 => ?_
  refine sc_pi (pc3 := 11) (cf_V (idx := 252) (ci := 4) [] m_st_toClockEdge (by decide) ⟨by decide, by decide⟩ (List.mem_of_getElem? (i := 806) (by decide +kernel)) rfl (Nat.le_of_ble_eq_true rfl) h9 (by decide +kernel) (Nat.le_of_ble_eq_true rfl) rfl) (ok_st_toClockEdge N r8 S5 w6) rfl (fun x10 w11 => ?_)
  refine sim_ne0 (o := 5) (tg := 16) (f := 14) (by decide +kernel) rfl rfl (fun _ => ?_) (fun _ => ?_)
  · refine sim_seg [(.iconst (-1), 0, 0, (-1))] [] (q := 15) (L' := [some (.ref a0), none, none]) (st' := [.int (J (-1))]) (v1 := w11) (by decide +kernel) rfl trivial ?_
    exact sim_iret (by decide +kernel) rfl rfl rfl
  · refine sim_seg [(.iconst (-1), 0, 0, (-1)), (.istore_n 1, 0, 0, 0)] [] (q := 18) (L' := [some (.ref a0), some (.int (J (-1))), none]) (st' := []) (v1 := w11) (by decide +kernel) rfl trivial ?_
    refine sim_seg [(.iconst 1, 0, 0, 1), (.istore_n 2, 0, 0, 0)] [] (q := 20) (L' := [some (.ref a0), some (.int (J (-1))), some (.int (J 1))]) (st' := []) (v1 := w11) (by decide +kernel) rfl trivial ?_
    exact sK_gc_longestGate_20 N N S5 w11 a0 (J (-1)) (J 1)
def B_gc_mostPeriods : bd := (⟨"GateCounter", "mostPeriods", "()I"⟩, prog_1_method_36_code, 3, (some .int), [], 5, 6)
theorem m_gc_mostPeriods : mV B_gc_mostPeriods 5 0 := ⟨⟨⟨by decide +kernel, Or.inl rfl⟩, rfl, (List.mem_of_getElem? (i := 810) (by decide +kernel)), by decide +kernel, (List.mem_of_getElem? (i := 95) (by decide +kernel)), ⟨by decide, by decide⟩, by decide⟩, rfl, (by unfold nar; decide +kernel), (List.mem_of_getElem? (i := 808) (by decide +kernel)), rfl, (List.mem_of_getElem? (i := 809) (by decide +kernel))⟩
noncomputable def F_gc_mostPeriods (N : Nat) (a0 : Nat) (S : shp) (v : vl) : Option (Int32 × shp × vl) :=
  grd (kin S a0 = some (0, 5)) <| (gr S a0 6).bind fun r2 => (F_gc_fresh N a0 r2 S v).bind fun (q4, S5, w6) => oc2 q4 none fun r8 => grd (kin S5 r8 = some (0, 4)) <| (gr S5 r8 7).bind fun r10 => grd (kin S5 r10 = some (0, 3)) <| (F_sg_passTo N r10 (J 2000000) S5 w6).bind fun w13 => (gr S5 a0 5).bind fun r14 => grd (kin S5 r14 = some (0, 4)) <| (gr S5 r14 7).bind fun r17 => grd (kin S5 r17 = some (0, 3)) <| (F_ma_min (J 999) (((gi w13 r10 3) - (gi w13 r17 3)) - (J 1)) S5 w13).bind fun x20 => (if x20 < (J 1) then some (((J (-1)), S5, w13)) else (gr S5 a0 6).bind fun r21 => (F_gc_fresh N a0 r21 S5 w13).bind fun (q23, S24, w25) => oc2 q23 none fun r27 => grd (kin S24 r27 = some (0, 4)) <| lt (si w25 r27 2 x20) fun w29 => (gr S24 a0 6).bind fun r30 => grd (kin S24 r30 = some (0, 4)) <| (F_st_measureByPeriod N r30 S24 w29).bind fun (x33, S34, w35) => (if x33 = (J 0) then some ((x20, S34, w35)) else some (((J (-1)), S34, w35))))
theorem ok_gc_mostPeriods (N : Nat) (a0 : Nat) (S : shp) (v : vl) : SimK B_gc_mostPeriods 0 (entB (bN B_gc_mostPeriods) [.ref a0]) [] S v (F_gc_mostPeriods N a0 S v) (ρgi) := by
  show SimK B_gc_mostPeriods 0 [some (.ref a0), none, none] [] S v (F_gc_mostPeriods N a0 S v) _
  unfold F_gc_mostPeriods
  refine sim_grd fun h1 => ?_
  refine sim_bind fun r2 h3 => ?_
  refine sim_seg [(.aload_n 0, 0, 0, 0), (.aload_n 0, 0, 0, 0), (.getfield 30, 5, 6, 0)] [r2] (q := 5) (L' := [some (.ref a0), none, none]) (st' := [.ref r2, .ref a0]) (v1 := v) (by decide +kernel) rfl ⟨⟨h1, h3⟩, trivial⟩ ?_
  refine sc_gq (pc3 := 8) (cf_V (idx := 196) (ci := 5) [.ref r2] m_gc_fresh (by decide) ⟨by decide, by decide⟩ (List.mem_of_getElem? (i := 645) (by decide +kernel)) rfl (Nat.le_of_ble_eq_true rfl) h1 (by decide +kernel) (Nat.le_of_ble_eq_true rfl) rfl) (ok_gc_fresh N a0 r2 S v) rfl (fun q4 S5 w6 h7 => ?_)
  refine sim_oc2 (fun _ => sim_none) (fun r8 _ => ?_)
  refine sim_grd fun h9 => ?_
  refine sim_bind fun r10 h11 => ?_
  refine sim_seg [(.getfield 69, 4, 7, 0), (.astore_n 1, 0, 0, 0)] [r10] (q := 12) (L' := [some (.ref a0), some (.ref r10), none]) (st' := []) (v1 := w6) (by decide +kernel) rfl ⟨⟨h9, h11⟩, trivial⟩ ?_
  refine sim_seg [(.aload_n 1, 0, 0, 0), (.ldc 216, 0, 0, 2000000)] [] (q := 15) (L' := [some (.ref a0), some (.ref r10), none]) (st' := [.int (J 2000000), .ref r10]) (v1 := w6) (by decide +kernel) rfl trivial ?_
  refine sim_grd fun h12 => ?_
  refine sc_pv (pc3 := 18) (cf_V (idx := 200) (ci := 3) [.int (J 2000000)] m_sg_passTo (by decide) ⟨by decide, by decide⟩ (List.mem_of_getElem? (i := 812) (by decide +kernel)) rfl (Nat.le_of_ble_eq_true rfl) h12 (by decide +kernel) (Nat.le_of_ble_eq_true rfl) rfl) (ok_sg_passTo N r10 (J 2000000) S5 w6) rfl (fun w13 => ?_)
  refine sim_bind fun r14 h15 => ?_
  refine sim_grd fun h16 => ?_
  refine sim_bind fun r17 h18 => ?_
  refine sim_grd fun h19 => ?_
  refine sim_seg [(.sipush 999, 0, 0, 999), (.aload_n 1, 0, 0, 0), (.getfield 97, 3, 3, 0), (.aload_n 0, 0, 0, 0), (.getfield 26, 5, 5, 0), (.getfield 69, 4, 7, 0), (.getfield 97, 3, 3, 0), (.isub, 0, 0, 0), (.iconst 1, 0, 0, 1), (.isub, 0, 0, 0)] [r14, r17] (q := 38) (L' := [some (.ref a0), some (.ref r10), none]) (st' := [.int (((gi w13 r10 3) - (gi w13 r17 3)) - (J 1)), .int (J 999)]) (v1 := w13) (by decide +kernel) rfl ⟨h12, ⟨(h7.2.2.2.2 _ _ h1), h15⟩, ⟨h16, h18⟩, h19, trivial⟩ ?_
  refine sc_ri (pc3 := 41) (cf_S (idx := 220) [.int (J 999), .int (((gi w13 r10 3) - (gi w13 r17 3)) - (J 1))] m_ma_min ⟨by decide, by decide⟩ (List.mem_of_getElem? (i := 692) (by decide +kernel)) rfl (Nat.le_of_ble_eq_true rfl) (by decide +kernel) (Nat.le_of_ble_eq_true rfl) rfl) (ok_ma_min (J 999) (((gi w13 r10 3) - (gi w13 r17 3)) - (J 1)) S5 w13) rfl (fun x20 => ?_)
  refine sim_seg [(.istore_n 2, 0, 0, 0)] [] (q := 42) (L' := [some (.ref a0), some (.ref r10), some (.int x20)]) (st' := []) (v1 := w13) (by decide +kernel) rfl trivial ?_
  refine sim_seg [(.iload_n 2, 0, 0, 0), (.iconst 1, 0, 0, 1)] [] (q := 44) (L' := [some (.ref a0), some (.ref r10), some (.int x20)]) (st' := [.int (J 1), .int x20]) (v1 := w13) (by decide +kernel) rfl trivial ?_
  refine sim_ge (o := 5) (tg := 49) (f := 47) (by decide +kernel) rfl rfl (fun _ => ?_) (fun _ => ?_)
  · refine sim_seg [(.iconst (-1), 0, 0, (-1))] [] (q := 48) (L' := [some (.ref a0), some (.ref r10), some (.int x20)]) (st' := [.int (J (-1))]) (v1 := w13) (by decide +kernel) rfl trivial ?_
    exact sim_iret (by decide +kernel) rfl rfl rfl
  · refine sim_bind fun r21 h22 => ?_
    refine sim_seg [(.aload_n 0, 0, 0, 0), (.aload_n 0, 0, 0, 0), (.getfield 30, 5, 6, 0)] [r21] (q := 54) (L' := [some (.ref a0), some (.ref r10), some (.int x20)]) (st' := [.ref r21, .ref a0]) (v1 := w13) (by decide +kernel) rfl ⟨⟨(h7.2.2.2.2 _ _ h1), h22⟩, trivial⟩ ?_
    refine sc_gq (pc3 := 57) (cf_V (idx := 196) (ci := 5) [.ref r21] m_gc_fresh (by decide) ⟨by decide, by decide⟩ (List.mem_of_getElem? (i := 645) (by decide +kernel)) rfl (Nat.le_of_ble_eq_true rfl) (h7.2.2.2.2 _ _ h1) (by decide +kernel) (Nat.le_of_ble_eq_true rfl) rfl) (ok_gc_fresh N a0 r21 S5 w13) rfl (fun q23 S24 w25 h26 => ?_)
    refine sim_oc2 (fun _ => sim_none) (fun r27 _ => ?_)
    refine sim_grd fun h28 => ?_
    refine sim_seg [(.iload_n 2, 0, 0, 0), (.putfield 127, 4, 2, 0), (.aload_n 0, 0, 0, 0)] [] (q := 62) (L' := [some (.ref a0), some (.ref r10), some (.int x20)]) (st' := [.ref a0]) (v1 := (si w25 r27 2 x20)) (by decide +kernel) rfl ⟨h28, trivial⟩ ?_
    refine sim_lt (x := (si w25 r27 2 x20)) ?_
    generalize (si w25 r27 2 x20) = w29
    refine sim_bind fun r30 h31 => ?_
    refine sim_seg [(.getfield 30, 5, 6, 0)] [r30] (q := 65) (L' := [some (.ref a0), some (.ref r10), some (.int x20)]) (st' := [.ref r30]) (v1 := w29) (by decide +kernel) rfl ⟨⟨(h26.2.2.2.2 _ _ (h7.2.2.2.2 _ _ h1)), h31⟩, trivial⟩ ?_
    refine sim_grd fun h32 => ?_
    refine sc_gi (pc3 := 68) (cf_V (idx := 238) (ci := 4) [] m_st_measureByPeriod (by decide) ⟨by decide, by decide⟩ (List.mem_of_getElem? (i := 653) (by decide +kernel)) rfl (Nat.le_of_ble_eq_true rfl) h32 (by decide +kernel) (Nat.le_of_ble_eq_true rfl) rfl) (ok_st_measureByPeriod N r30 S24 w29) rfl (fun x33 S34 w35 h36 => ?_)
    refine sim_ne0 (o := 7) (tg := 75) (f := 71) (by decide +kernel) rfl rfl (fun _ => ?_) (fun _ => ?_)
    · refine sim_seg [(.iload_n 2, 0, 0, 0), (.goto 4, 0, 0, 0)] [] (q := 76) (L' := [some (.ref a0), some (.ref r10), some (.int x20)]) (st' := [.int x20]) (v1 := w35) (by decide +kernel) rfl trivial ?_
      exact sim_iret (by decide +kernel) rfl rfl rfl
    · refine sim_seg [(.iconst (-1), 0, 0, (-1))] [] (q := 76) (L' := [some (.ref a0), some (.ref r10), some (.int x20)]) (st' := [.int (J (-1))]) (v1 := w35) (by decide +kernel) rfl trivial ?_
      exact sim_iret (by decide +kernel) rfl rfl rfl
def B_gc_bestPrescale : bd := (⟨"GateCounter", "bestPrescale", "()I"⟩, prog_1_method_38_code, 7, (some .int), [], 5, 6)
theorem m_gc_bestPrescale : mV B_gc_bestPrescale 5 0 := ⟨⟨⟨by decide +kernel, Or.inl rfl⟩, rfl, (List.mem_of_getElem? (i := 816) (by decide +kernel)), by decide +kernel, (List.mem_of_getElem? (i := 95) (by decide +kernel)), ⟨by decide, by decide⟩, by decide⟩, rfl, (by unfold nar; decide +kernel), (List.mem_of_getElem? (i := 814) (by decide +kernel)), rfl, (List.mem_of_getElem? (i := 815) (by decide +kernel))⟩
noncomputable def Y_gc_bestPrescale_15 (N : Nat)  (i15 : shp → vl → Nat → Int32 → Int32 → Nat → Int32 → Int32 → Option (Int32 × shp × vl))  (S : shp) (v : vl) (p0 : Nat) (p1 : Int32) (p2 : Int32) (p3 : Nat) (p4 : Int32) (p5 : Int32) : Option (Int32 × shp × vl) :=
  (if p5 < p4 then grd (kin S p3 = some (11, 5)) <| grd (vp_in p5 (alen S p3)) <| lt (gi v p3 (Int32.toNatClampNeg p5)) fun x4 => grd (kin S p0 = some (0, 5)) <| (gr S p0 6).bind fun r6 => (F_gc_fresh N p0 r6 S v).bind fun (q8, S9, w10) => oc2 q8 none fun r12 => grd (kin S9 r12 = some (0, 4)) <| (gr S9 r12 7).bind fun r14 => grd (kin S9 r14 = some (0, 3)) <| (F_sg_setUpPrescaler r14 x4 S9 w10).bind fun w17 => (gr S9 p0 6).bind fun r18 => grd (kin S9 r18 = some (0, 4)) <| (F_st_measureByGate N r18 S9 w17).bind fun (x21, S22, w23) => (if x21 = (J 0) then (gr S22 p0 6).bind fun r25 => grd (kin S22 r25 = some (0, 4)) <| (F_st_latestNumber N r25 (J 4) S22 w23).bind fun x28 => (if p2 < x28 then (F_st_latestNumber N r25 (J 4) S22 w23).bind fun x29 => i15 S22 w23 p0 x4 x29 p3 p4 (p5 + (J 1)) else i15 S22 w23 p0 p1 p2 p3 p4 (p5 + (J 1))) else i15 S22 w23 p0 p1 p2 p3 p4 (p5 + (J 1))) else some ((p1, S, v)))
noncomputable def K_gc_bestPrescale_15 (N : Nat)  (n : Nat)  : shp → vl → Nat → Int32 → Int32 → Nat → Int32 → Int32 → Option (Int32 × shp × vl) :=
  Nat.rec (motive := fun _ => shp → vl → Nat → Int32 → Int32 → Nat → Int32 → Int32 → Option (Int32 × shp × vl)) (fun _ _ _ _ _ _ _ _ => none) (fun _ i => Y_gc_bestPrescale_15 N  i ) n
theorem sY_gc_bestPrescale_15 (N : Nat)  (i15 : shp → vl → Nat → Int32 → Int32 → Nat → Int32 → Int32 → Option (Int32 × shp × vl))   (j15 : ∀ (S : shp) (v : vl) (p0 : Nat) (p1 : Int32) (p2 : Int32) (p3 : Nat) (p4 : Int32) (p5 : Int32), SimK B_gc_bestPrescale 15 [some (.ref p0), some (.int p1), some (.int p2), some (.ref p3), some (.int p4), some (.int p5), none] [] S v (i15 S v p0 p1 p2 p3 p4 p5) (ρgi)) (S : shp) (v : vl) (p0 : Nat) (p1 : Int32) (p2 : Int32) (p3 : Nat) (p4 : Int32) (p5 : Int32) : SimK B_gc_bestPrescale 15 [some (.ref p0), some (.int p1), some (.int p2), some (.ref p3), some (.int p4), some (.int p5), none] [] S v (Y_gc_bestPrescale_15 N  i15  S v p0 p1 p2 p3 p4 p5) (ρgi) := by
  unfold Y_gc_bestPrescale_15
  refine sim_seg [(.iload 5, 0, 0, 0), (.iload 4, 0, 0, 0)] [] (q := 19) (L' := [some (.ref p0), some (.int p1), some (.int p2), some (.ref p3), some (.int p4), some (.int p5), none]) (st' := [.int p4, .int p5]) (v1 := v) (by decide +kernel) rfl trivial ?_
  refine sim_ge (o := 65) (tg := 84) (f := 22) (by decide +kernel) rfl rfl (fun _ => ?_) (fun _ => ?_)
  · refine sim_grd fun h2 => ?_
    refine sim_grd fun h3 => ?_
    refine sim_seg [(.aload_n 3, 0, 0, 0), (.iload 5, 0, 0, 0), (.iaload, 0, 0, 0), (.istore 6, 0, 0, 0)] [] (q := 28) (L' := [some (.ref p0), some (.int p1), some (.int p2), some (.ref p3), some (.int p4), some (.int p5), some (.int (gi v p3 (Int32.toNatClampNeg p5)))]) (st' := []) (v1 := v) (by decide +kernel) rfl ⟨⟨(Or.inr (kin_alen h2)), h3⟩, trivial⟩ ?_
    refine sim_nm (gi v p3 (Int32.toNatClampNeg p5)) (fun x4 => [some (.ref p0), some (.int p1), some (.int p2), some (.ref p3), some (.int p4), some (.int p5), some (.int x4)]) (fun x4 => []) (fun x4 => ?_) rfl rfl
    refine sim_grd fun h5 => ?_
    refine sim_bind fun r6 h7 => ?_
    refine sim_seg [(.aload_n 0, 0, 0, 0), (.aload_n 0, 0, 0, 0), (.getfield 30, 5, 6, 0)] [r6] (q := 33) (L' := [some (.ref p0), some (.int p1), some (.int p2), some (.ref p3), some (.int p4), some (.int p5), some (.int x4)]) (st' := [.ref r6, .ref p0]) (v1 := v) (by decide +kernel) rfl ⟨⟨h5, h7⟩, trivial⟩ ?_
    refine sc_gq (pc3 := 36) (cf_V (idx := 196) (ci := 5) [.ref r6] m_gc_fresh (by decide) ⟨by decide, by decide⟩ (List.mem_of_getElem? (i := 645) (by decide +kernel)) rfl (Nat.le_of_ble_eq_true rfl) h5 (by decide +kernel) (Nat.le_of_ble_eq_true rfl) rfl) (ok_gc_fresh N p0 r6 S v) rfl (fun q8 S9 w10 h11 => ?_)
    refine sim_oc2 (fun _ => sim_none) (fun r12 _ => ?_)
    refine sim_grd fun h13 => ?_
    refine sim_bind fun r14 h15 => ?_
    refine sim_seg [(.getfield 69, 4, 7, 0), (.iload 6, 0, 0, 0)] [r14] (q := 41) (L' := [some (.ref p0), some (.int p1), some (.int p2), some (.ref p3), some (.int p4), some (.int p5), some (.int x4)]) (st' := [.int x4, .ref r14]) (v1 := w10) (by decide +kernel) rfl ⟨⟨h13, h15⟩, trivial⟩ ?_
    refine sim_grd fun h16 => ?_
    refine sc_pv (pc3 := 44) (cf_V (idx := 265) (ci := 3) [.int x4] m_sg_setUpPrescaler (by decide) ⟨by decide, by decide⟩ (List.mem_of_getElem? (i := 817) (by decide +kernel)) rfl (Nat.le_of_ble_eq_true rfl) h16 (by decide +kernel) (Nat.le_of_ble_eq_true rfl) rfl) (ok_sg_setUpPrescaler r14 x4 S9 w10) rfl (fun w17 => ?_)
    refine sim_bind fun r18 h19 => ?_
    refine sim_seg [(.aload_n 0, 0, 0, 0), (.getfield 30, 5, 6, 0)] [r18] (q := 48) (L' := [some (.ref p0), some (.int p1), some (.int p2), some (.ref p3), some (.int p4), some (.int p5), some (.int x4)]) (st' := [.ref r18]) (v1 := w17) (by decide +kernel) rfl ⟨⟨(h11.2.2.2.2 _ _ h5), h19⟩, trivial⟩ ?_
    refine sim_grd fun h20 => ?_
    refine sc_gi (pc3 := 51) (cf_V (idx := 232) (ci := 4) [] m_st_measureByGate (by decide) ⟨by decide, by decide⟩ (List.mem_of_getElem? (i := 761) (by decide +kernel)) rfl (Nat.le_of_ble_eq_true rfl) h20 (by decide +kernel) (Nat.le_of_ble_eq_true rfl) rfl) (ok_st_measureByGate N r18 S9 w17) rfl (fun x21 S22 w23 h24 => ?_)
    refine sim_ne0 (o := 27) (tg := 78) (f := 54) (by decide +kernel) rfl rfl (fun _ => ?_) (fun _ => ?_)
    · refine sim_bind fun r25 h26 => ?_
      refine sim_seg [(.aload_n 0, 0, 0, 0), (.getfield 30, 5, 6, 0), (.iconst 4, 0, 0, 4)] [r25] (q := 59) (L' := [some (.ref p0), some (.int p1), some (.int p2), some (.ref p3), some (.int p4), some (.int p5), some (.int x4)]) (st' := [.int (J 4), .ref r25]) (v1 := w23) (by decide +kernel) rfl ⟨⟨(h24.2.2.2.2 _ _ (h11.2.2.2.2 _ _ h5)), h26⟩, trivial⟩ ?_
      refine sim_grd fun h27 => ?_
      refine sc_ri (pc3 := 62) (cf_V (idx := 235) (ci := 4) [.int (J 4)] m_st_latestNumber (by decide) ⟨by decide, by decide⟩ (List.mem_of_getElem? (i := 779) (by decide +kernel)) rfl (Nat.le_of_ble_eq_true rfl) h27 (by decide +kernel) (Nat.le_of_ble_eq_true rfl) rfl) (ok_st_latestNumber N r25 (J 4) S22 w23) rfl (fun x28 => ?_)
      refine sim_seg [(.iload_n 2, 0, 0, 0)] [] (q := 63) (L' := [some (.ref p0), some (.int p1), some (.int p2), some (.ref p3), some (.int p4), some (.int p5), some (.int x4)]) (st' := [.int p2, .int x28]) (v1 := w23) (by decide +kernel) rfl trivial ?_
      refine sim_le (o := 15) (tg := 78) (f := 66) (by decide +kernel) rfl rfl (fun _ => ?_) (fun _ => ?_)
      · refine sim_seg [(.iload 6, 0, 0, 0), (.istore_n 1, 0, 0, 0)] [] (q := 69) (L' := [some (.ref p0), some (.int x4), some (.int p2), some (.ref p3), some (.int p4), some (.int p5), some (.int x4)]) (st' := []) (v1 := w23) (by decide +kernel) rfl trivial ?_
        refine sim_seg [(.aload_n 0, 0, 0, 0), (.getfield 30, 5, 6, 0), (.iconst 4, 0, 0, 4)] [r25] (q := 74) (L' := [some (.ref p0), some (.int x4), some (.int p2), some (.ref p3), some (.int p4), some (.int p5), some (.int x4)]) (st' := [.int (J 4), .ref r25]) (v1 := w23) (by decide +kernel) rfl ⟨⟨(h24.2.2.2.2 _ _ (h11.2.2.2.2 _ _ h5)), h26⟩, trivial⟩ ?_
        refine sc_ri (pc3 := 77) (cf_V (idx := 235) (ci := 4) [.int (J 4)] m_st_latestNumber (by decide) ⟨by decide, by decide⟩ (List.mem_of_getElem? (i := 779) (by decide +kernel)) rfl (Nat.le_of_ble_eq_true rfl) h27 (by decide +kernel) (Nat.le_of_ble_eq_true rfl) rfl) (ok_st_latestNumber N r25 (J 4) S22 w23) rfl (fun x29 => ?_)
        refine sim_seg [(.istore_n 2, 0, 0, 0)] [] (q := 78) (L' := [some (.ref p0), some (.int x4), some (.int x29), some (.ref p3), some (.int p4), some (.int p5), some (.int x4)]) (st' := []) (v1 := w23) (by decide +kernel) rfl trivial ?_
        refine sim_seg [(.iinc 5 1, 0, 0, 1)] [] (q := 81) (L' := [some (.ref p0), some (.int x4), some (.int x29), some (.ref p3), some (.int p4), some (.int (p5 + (J 1))), some (.int x4)]) (st' := []) (v1 := w23) (by decide +kernel) rfl trivial ?_
        refine sim_seg [(.goto (-66), 0, 0, 0)] [] (q := 15) (L' := [some (.ref p0), some (.int x4), some (.int x29), some (.ref p3), some (.int p4), some (.int (p5 + (J 1))), some (.int x4)]) (st' := []) (v1 := w23) (by decide +kernel) rfl trivial ?_
        exact sim_wk (L0 := [some (.ref p0), some (.int x4), some (.int x29), some (.ref p3), some (.int p4), some (.int (p5 + (J 1))), none]) ⟨rfl, rfl, rfl, rfl, rfl, rfl, trivial⟩ (j15 S22 w23 p0 x4 x29 p3 p4 (p5 + (J 1)))
      · refine sim_seg [(.iinc 5 1, 0, 0, 1)] [] (q := 81) (L' := [some (.ref p0), some (.int p1), some (.int p2), some (.ref p3), some (.int p4), some (.int (p5 + (J 1))), some (.int x4)]) (st' := []) (v1 := w23) (by decide +kernel) rfl trivial ?_
        refine sim_seg [(.goto (-66), 0, 0, 0)] [] (q := 15) (L' := [some (.ref p0), some (.int p1), some (.int p2), some (.ref p3), some (.int p4), some (.int (p5 + (J 1))), some (.int x4)]) (st' := []) (v1 := w23) (by decide +kernel) rfl trivial ?_
        exact sim_wk (L0 := [some (.ref p0), some (.int p1), some (.int p2), some (.ref p3), some (.int p4), some (.int (p5 + (J 1))), none]) ⟨rfl, rfl, rfl, rfl, rfl, rfl, trivial⟩ (j15 S22 w23 p0 p1 p2 p3 p4 (p5 + (J 1)))
    · refine sim_seg [(.iinc 5 1, 0, 0, 1)] [] (q := 81) (L' := [some (.ref p0), some (.int p1), some (.int p2), some (.ref p3), some (.int p4), some (.int (p5 + (J 1))), some (.int x4)]) (st' := []) (v1 := w23) (by decide +kernel) rfl trivial ?_
      refine sim_seg [(.goto (-66), 0, 0, 0)] [] (q := 15) (L' := [some (.ref p0), some (.int p1), some (.int p2), some (.ref p3), some (.int p4), some (.int (p5 + (J 1))), some (.int x4)]) (st' := []) (v1 := w23) (by decide +kernel) rfl trivial ?_
      exact sim_wk (L0 := [some (.ref p0), some (.int p1), some (.int p2), some (.ref p3), some (.int p4), some (.int (p5 + (J 1))), none]) ⟨rfl, rfl, rfl, rfl, rfl, rfl, trivial⟩ (j15 S22 w23 p0 p1 p2 p3 p4 (p5 + (J 1)))
  · refine sim_seg [(.iload_n 1, 0, 0, 0)] [] (q := 85) (L' := [some (.ref p0), some (.int p1), some (.int p2), some (.ref p3), some (.int p4), some (.int p5), none]) (st' := [.int p1]) (v1 := v) (by decide +kernel) rfl trivial ?_
    exact sim_iret (by decide +kernel) rfl rfl rfl
theorem sR_gc_bestPrescale_15 (N : Nat)    (n : Nat) : ∀ (S : shp) (v : vl) (p0 : Nat) (p1 : Int32) (p2 : Int32) (p3 : Nat) (p4 : Int32) (p5 : Int32), SimK B_gc_bestPrescale 15 [some (.ref p0), some (.int p1), some (.int p2), some (.ref p3), some (.int p4), some (.int p5), none] [] S v (K_gc_bestPrescale_15 N  n  S v p0 p1 p2 p3 p4 p5) (ρgi) := by
  induction n with
  | zero => intro S v p0 p1 p2 p3 p4 p5; exact sim_none
  | succ k ih => intro S v p0 p1 p2 p3 p4 p5; exact sY_gc_bestPrescale_15 N   _   ih S v p0 p1 p2 p3 p4 p5
theorem sK_gc_bestPrescale_15 (N : Nat)   (n : Nat) (S : shp) (v : vl) (p0 : Nat) (p1 : Int32) (p2 : Int32) (p3 : Nat) (p4 : Int32) (p5 : Int32) : SimK B_gc_bestPrescale 15 [some (.ref p0), some (.int p1), some (.int p2), some (.ref p3), some (.int p4), some (.int p5), none] [] S v (K_gc_bestPrescale_15 N  n  S v p0 p1 p2 p3 p4 p5) (ρgi) := sR_gc_bestPrescale_15 N    n  S v p0 p1 p2 p3 p4 p5
noncomputable def F_gc_bestPrescale (N : Nat) (a0 : Nat) (S : shp) (v : vl) : Option (Int32 × shp × vl) :=
  grd (kin S (kad S 0) = some (11, 5)) <| K_gc_bestPrescale_15 N  N S v a0 (J (-1)) (J (-1)) (kad S 0) (nI (alen S (kad S 0))) (J 0)
theorem ok_gc_bestPrescale (N : Nat) (a0 : Nat) (S : shp) (v : vl) : SimK B_gc_bestPrescale 0 (entB (bN B_gc_bestPrescale) [.ref a0]) [] S v (F_gc_bestPrescale N a0 S v) (ρgi) := by
  show SimK B_gc_bestPrescale 0 [some (.ref a0), none, none, none, none, none, none] [] S v (F_gc_bestPrescale N a0 S v) _
  unfold F_gc_bestPrescale
  refine sim_seg [(.iconst (-1), 0, 0, (-1)), (.istore_n 1, 0, 0, 0)] [] (q := 2) (L' := [some (.ref a0), some (.int (J (-1))), none, none, none, none, none]) (st' := []) (v1 := v) (by decide +kernel) rfl trivial ?_
  refine sim_seg [(.iconst (-1), 0, 0, (-1)), (.istore_n 2, 0, 0, 0)] [] (q := 4) (L' := [some (.ref a0), some (.int (J (-1))), some (.int (J (-1))), none, none, none, none]) (st' := []) (v1 := v) (by decide +kernel) rfl trivial ?_
  refine sim_gets (idx := 262) (m := 0) (pc3 := 7) (by decide) (by decide +kernel) (show Cond.fieldLink (owns (bO B_gc_bestPrescale)) 262 "GateCounter" "PRESCALES" "[I" ∈ tb2 from (List.mem_of_getElem? (i := 543) (by decide +kernel))) rfl ?_
  show SimK _ _ _ ([.ref (kad S 0)]) _ _ _ _
  refine sim_seg [(.astore_n 3, 0, 0, 0)] [] (q := 8) (L' := [some (.ref a0), some (.int (J (-1))), some (.int (J (-1))), some (.ref (kad S 0)), none, none, none]) (st' := []) (v1 := v) (by decide +kernel) rfl trivial ?_
  refine sim_grd fun h1 => ?_
  refine sim_seg [(.aload_n 3, 0, 0, 0), (.arraylength, 0, 0, 0), (.istore 4, 0, 0, 0)] [] (q := 12) (L' := [some (.ref a0), some (.int (J (-1))), some (.int (J (-1))), some (.ref (kad S 0)), some (.int (nI (alen S (kad S 0)))), none, none]) (st' := []) (v1 := v) (by decide +kernel) rfl ⟨⟨_, _, h1, by decide⟩, trivial⟩ ?_
  refine sim_seg [(.iconst 0, 0, 0, 0), (.istore 5, 0, 0, 0)] [] (q := 15) (L' := [some (.ref a0), some (.int (J (-1))), some (.int (J (-1))), some (.ref (kad S 0)), some (.int (nI (alen S (kad S 0)))), some (.int (J 0)), none]) (st' := []) (v1 := v) (by decide +kernel) rfl trivial ?_
  exact sK_gc_bestPrescale_15 N N S v a0 (J (-1)) (J (-1)) (kad S 0) (nI (alen S (kad S 0))) (J 0)
def B_st_valueAt : bd := (⟨"GateCounter$State", "valueAt", "(I)I"⟩, prog_6_method_14_code, 3, (some .int), [], 4, 1)
theorem m_st_valueAt : mV B_st_valueAt 4 1 := ⟨⟨⟨by decide +kernel, Or.inl rfl⟩, rfl, (List.mem_of_getElem? (i := 825) (by decide +kernel)), by decide +kernel, (List.mem_of_getElem? (i := 97) (by decide +kernel)), ⟨by decide, by decide⟩, by decide⟩, rfl, (by unfold nar; decide +kernel), (List.mem_of_getElem? (i := 823) (by decide +kernel)), rfl, (List.mem_of_getElem? (i := 824) (by decide +kernel))⟩
noncomputable def F_st_valueAt (a0 : Nat) (b1 : Int32) (S : shp) (v : vl) : Option Int32 :=
  grd (kin S a0 = some (0, 4)) <| (F_st_at a0 b1 S v).bind fun q2 => oc2 q2 (some ((J 0))) fun r3 => grd (kin S r3 = some (0, 1)) <| some ((gi v r3 4))
theorem ok_st_valueAt (a0 : Nat) (b1 : Int32) (S : shp) (v : vl) : SimK B_st_valueAt 0 (entB (bN B_st_valueAt) [.ref a0, .int b1]) [] S v (F_st_valueAt a0 b1 S v) (ρri S v) := by
  show SimK B_st_valueAt 0 [some (.ref a0), some (.int b1), none] [] S v (F_st_valueAt a0 b1 S v) _
  unfold F_st_valueAt
  refine sim_seg [(.aload_n 0, 0, 0, 0), (.iload_n 1, 0, 0, 0)] [] (q := 2) (L' := [some (.ref a0), some (.int b1), none]) (st' := [.int b1, .ref a0]) (v1 := v) (by decide +kernel) rfl trivial ?_
  refine sim_grd fun h1 => ?_
  refine sc_rq (pc3 := 5) (cf_V (idx := 136) (ci := 4) [.int b1] m_st_at (by decide) ⟨by decide, by decide⟩ (List.mem_of_getElem? (i := 783) (by decide +kernel)) rfl (Nat.le_of_ble_eq_true rfl) h1 (by decide +kernel) (Nat.le_of_ble_eq_true rfl) rfl) (ok_st_at a0 b1 S v) rfl (fun q2 => ?_)
  refine sim_oc2 (fun _ => ?_) (fun r3 _ => ?_)
  · refine sim_seg [(.astore_n 2, 0, 0, 0)] [] (q := 6) (L' := [some (.ref a0), some (.int b1), some (.null)]) (st' := []) (v1 := v) (by decide +kernel) rfl trivial ?_
    refine sim_seg [(.aload_n 2, 0, 0, 0)] [] (q := 7) (L' := [some (.ref a0), some (.int b1), some (.null)]) (st' := [.null]) (v1 := v) (by decide +kernel) rfl trivial ?_
    refine sim_ifnonnullN (o := 7) (f := 10) (by decide +kernel) rfl ?_
    refine sim_seg [(.iconst 0, 0, 0, 0), (.goto 7, 0, 0, 0)] [] (q := 18) (L' := [some (.ref a0), some (.int b1), some (.null)]) (st' := [.int (J 0)]) (v1 := v) (by decide +kernel) rfl trivial ?_
    exact sim_iret (by decide +kernel) rfl rfl rfl
  · refine sim_seg [(.astore_n 2, 0, 0, 0)] [] (q := 6) (L' := [some (.ref a0), some (.int b1), some (.ref r3)]) (st' := []) (v1 := v) (by decide +kernel) rfl trivial ?_
    refine sim_seg [(.aload_n 2, 0, 0, 0)] [] (q := 7) (L' := [some (.ref a0), some (.int b1), some (.ref r3)]) (st' := [.ref r3]) (v1 := v) (by decide +kernel) rfl trivial ?_
    refine sim_ifnonnullS (o := 7) (tg := 14) (by decide +kernel) rfl ?_
    refine sim_grd fun h4 => ?_
    refine sim_seg [(.aload_n 2, 0, 0, 0), (.getfield 143, 1, 4, 0)] [] (q := 18) (L' := [some (.ref a0), some (.int b1), some (.ref r3)]) (st' := [.int (gi v r3 4)]) (v1 := v) (by decide +kernel) rfl ⟨h4, trivial⟩ ?_
    exact sim_iret (by decide +kernel) rfl rfl rfl
def B_gc_meanValue : bd := (⟨"GateCounter", "meanValue", "()D"⟩, prog_1_method_41_code, 4, (some .double), [], 5, 2)
theorem m_gc_meanValue : mV B_gc_meanValue 5 0 := ⟨⟨⟨by decide +kernel, Or.inl rfl⟩, rfl, (List.mem_of_getElem? (i := 821) (by decide +kernel)), by decide +kernel, (List.mem_of_getElem? (i := 95) (by decide +kernel)), ⟨by decide, by decide⟩, by decide⟩, rfl, (by unfold nar; decide +kernel), (List.mem_of_getElem? (i := 819) (by decide +kernel)), rfl, (List.mem_of_getElem? (i := 820) (by decide +kernel))⟩
noncomputable def Y_gc_meanValue_4 (N : Nat)  (i4 : Nat → Int64 → Int32 → Option UInt64) (S : shp) (v : vl)  (p0 : Nat) (p1 : Int64) (p3 : Int32) : Option UInt64 :=
  grd (kin S p0 = some (0, 5)) <| (gr S p0 5).bind fun r2 => grd (kin S r2 = some (0, 4)) <| (if p3 < (gi v r2 5) then (F_st_valueAt r2 p3 S v).bind fun x5 => i4 p0 (p1 + (Int32.toInt64 x5)) (p3 + (J 1)) else (if (J 0) < (gi v r2 5) then grd (vf_n64 (FP.ddiv (FP.l2d p1) (FP.i2d (gi v r2 5)))) <| some ((FP.ddiv (FP.l2d p1) (FP.i2d (gi v r2 5)))) else some (FP.dconst0)))
noncomputable def K_gc_meanValue_4 (N : Nat)  (n : Nat) (S : shp) (v : vl) : Nat → Int64 → Int32 → Option UInt64 :=
  Nat.rec (motive := fun _ => Nat → Int64 → Int32 → Option UInt64) (fun _ _ _ => none) (fun _ i => Y_gc_meanValue_4 N  i S v) n
theorem sY_gc_meanValue_4 (N : Nat)  (i4 : Nat → Int64 → Int32 → Option UInt64) (S : shp) (v : vl)  (j4 : ∀ (p0 : Nat) (p1 : Int64) (p3 : Int32), SimK B_gc_meanValue 4 [some (.ref p0), some (.long p1), none, some (.int p3)] [] S v (i4 p0 p1 p3) (ρrd S v))  (p0 : Nat) (p1 : Int64) (p3 : Int32) : SimK B_gc_meanValue 4 [some (.ref p0), some (.long p1), none, some (.int p3)] [] S v (Y_gc_meanValue_4 N  i4 S v  p0 p1 p3) (ρrd S v) := by
  unfold Y_gc_meanValue_4
  refine sim_grd fun h1 => ?_
  refine sim_bind fun r2 h3 => ?_
  refine sim_grd fun h4 => ?_
  refine sim_seg [(.iload_n 3, 0, 0, 0), (.aload_n 0, 0, 0, 0), (.getfield 26, 5, 5, 0), (.getfield 106, 4, 5, 0)] [r2] (q := 12) (L' := [some (.ref p0), some (.long p1), none, some (.int p3)]) (st' := [.int (gi v r2 5), .int p3]) (v1 := v) (by decide +kernel) rfl ⟨⟨h1, h3⟩, h4, trivial⟩ ?_
  refine sim_ge (o := 21) (tg := 33) (f := 15) (by decide +kernel) rfl rfl (fun _ => ?_) (fun _ => ?_)
  · refine sim_seg [(.lload_n 1, 0, 0, 0), (.aload_n 0, 0, 0, 0), (.getfield 26, 5, 5, 0), (.iload_n 3, 0, 0, 0)] [r2] (q := 21) (L' := [some (.ref p0), some (.long p1), none, some (.int p3)]) (st' := [.int p3, .ref r2, .long p1]) (v1 := v) (by decide +kernel) rfl ⟨⟨h1, h3⟩, trivial⟩ ?_
    refine sc_ri (pc3 := 24) (cf_V (idx := 277) (ci := 4) [.int p3] m_st_valueAt (by decide) ⟨by decide, by decide⟩ (List.mem_of_getElem? (i := 822) (by decide +kernel)) rfl (Nat.le_of_ble_eq_true rfl) h4 (by decide +kernel) (Nat.le_of_ble_eq_true rfl) rfl) (ok_st_valueAt r2 p3 S v) rfl (fun x5 => ?_)
    refine sim_seg [(.i2l, 0, 0, 0), (.ladd, 0, 0, 0), (.lstore_n 1, 0, 0, 0)] [] (q := 27) (L' := [some (.ref p0), some (.long (p1 + (Int32.toInt64 x5))), none, some (.int p3)]) (st' := []) (v1 := v) (by decide +kernel) rfl trivial ?_
    refine sim_seg [(.iinc 3 1, 0, 0, 1)] [] (q := 30) (L' := [some (.ref p0), some (.long (p1 + (Int32.toInt64 x5))), none, some (.int (p3 + (J 1)))]) (st' := []) (v1 := v) (by decide +kernel) rfl trivial ?_
    refine sim_seg [(.goto (-26), 0, 0, 0)] [] (q := 4) (L' := [some (.ref p0), some (.long (p1 + (Int32.toInt64 x5))), none, some (.int (p3 + (J 1)))]) (st' := []) (v1 := v) (by decide +kernel) rfl trivial ?_
    exact j4 p0 (p1 + (Int32.toInt64 x5)) (p3 + (J 1))
  · refine sim_seg [(.aload_n 0, 0, 0, 0), (.getfield 26, 5, 5, 0), (.getfield 106, 4, 5, 0)] [r2] (q := 40) (L' := [some (.ref p0), some (.long p1), none, some (.int p3)]) (st' := [.int (gi v r2 5)]) (v1 := v) (by decide +kernel) rfl ⟨⟨h1, h3⟩, h4, trivial⟩ ?_
    refine sim_le0 (o := 17) (tg := 57) (f := 43) (by decide +kernel) rfl rfl (fun _ => ?_) (fun _ => ?_)
    · refine sim_grd fun h6 => ?_
      refine sim_seg [(.lload_n 1, 0, 0, 0), (.l2d, 0, 0, 0), (.aload_n 0, 0, 0, 0), (.getfield 26, 5, 5, 0), (.getfield 106, 4, 5, 0), (.i2d, 0, 0, 0), (.ddiv, 0, 0, 0), (.goto 4, 0, 0, 0)] [r2] (q := 58) (L' := [some (.ref p0), some (.long p1), none, some (.int p3)]) (st' := [.double (FP.ddiv (FP.l2d p1) (FP.i2d (gi v r2 5)))]) (v1 := v) (by decide +kernel) rfl ⟨⟨h1, h3⟩, h4, h6, trivial⟩ ?_
      exact sim_dret (by decide +kernel) rfl rfl
    · refine sim_seg [(.dconst 0, 0, 0, 0)] [] (q := 58) (L' := [some (.ref p0), some (.long p1), none, some (.int p3)]) (st' := [.double FP.dconst0]) (v1 := v) (by decide +kernel) rfl trivial ?_
      exact sim_dret (by decide +kernel) rfl rfl
theorem sR_gc_meanValue_4 (N : Nat)  (S : shp) (v : vl)  (n : Nat) : ∀  (p0 : Nat) (p1 : Int64) (p3 : Int32), SimK B_gc_meanValue 4 [some (.ref p0), some (.long p1), none, some (.int p3)] [] S v (K_gc_meanValue_4 N  n S v  p0 p1 p3) (ρrd S v) := by
  induction n with
  | zero => intro p0 p1 p3; exact sim_none
  | succ k ih => intro p0 p1 p3; exact sY_gc_meanValue_4 N   _ S v  ih p0 p1 p3
theorem sK_gc_meanValue_4 (N : Nat)  (n : Nat) (S : shp) (v : vl) (p0 : Nat) (p1 : Int64) (p3 : Int32) : SimK B_gc_meanValue 4 [some (.ref p0), some (.long p1), none, some (.int p3)] [] S v (K_gc_meanValue_4 N  n S v  p0 p1 p3) (ρrd S v) := sR_gc_meanValue_4 N   S v  n  p0 p1 p3
noncomputable def F_gc_meanValue (N : Nat) (a0 : Nat) (S : shp) (v : vl) : Option UInt64 :=
  K_gc_meanValue_4 N  N S v a0 (JL 0) (J 0)
theorem ok_gc_meanValue (N : Nat) (a0 : Nat) (S : shp) (v : vl) : SimK B_gc_meanValue 0 (entB (bN B_gc_meanValue) [.ref a0]) [] S v (F_gc_meanValue N a0 S v) (ρrd S v) := by
  show SimK B_gc_meanValue 0 [some (.ref a0), none, none, none] [] S v (F_gc_meanValue N a0 S v) _
  unfold F_gc_meanValue
  refine sim_seg [(.lconst 0, 0, 0, 0), (.lstore_n 1, 0, 0, 0)] [] (q := 2) (L' := [some (.ref a0), some (.long (JL 0)), none, none]) (st' := []) (v1 := v) (by decide +kernel) rfl trivial ?_
  refine sim_seg [(.iconst 0, 0, 0, 0), (.istore_n 3, 0, 0, 0)] [] (q := 4) (L' := [some (.ref a0), some (.long (JL 0)), none, some (.int (J 0))]) (st' := []) (v1 := v) (by decide +kernel) rfl trivial ?_
  exact sK_gc_meanValue_4 N N S v a0 (JL 0) (J 0)
def B_st_valuesBelow : bd := (⟨"GateCounter$State", "valuesBelow", "(I)I"⟩, prog_6_method_16_code, 4, (some .int), [], 4, 2)
theorem m_st_valuesBelow : mV B_st_valuesBelow 4 1 := ⟨⟨⟨by decide +kernel, Or.inl rfl⟩, rfl, (List.mem_of_getElem? (i := 833) (by decide +kernel)), by decide +kernel, (List.mem_of_getElem? (i := 97) (by decide +kernel)), ⟨by decide, by decide⟩, by decide⟩, rfl, (by unfold nar; decide +kernel), (List.mem_of_getElem? (i := 831) (by decide +kernel)), rfl, (List.mem_of_getElem? (i := 832) (by decide +kernel))⟩
noncomputable def Y_st_valuesBelow_4 (N : Nat)  (i4 : Nat → Int32 → Int32 → Int32 → Option Int32) (S : shp) (v : vl)  (p0 : Nat) (p1 : Int32) (p2 : Int32) (p3 : Int32) : Option Int32 :=
  grd (kin S p0 = some (0, 4)) <| (if p3 < (gi v p0 5) then (F_st_valueAt p0 p3 S v).bind fun x2 => (if x2 < p1 then i4 p0 p1 (p2 + (J 1)) (p3 + (J 1)) else i4 p0 p1 p2 (p3 + (J 1))) else some (p2))
noncomputable def K_st_valuesBelow_4 (N : Nat)  (n : Nat) (S : shp) (v : vl) : Nat → Int32 → Int32 → Int32 → Option Int32 :=
  Nat.rec (motive := fun _ => Nat → Int32 → Int32 → Int32 → Option Int32) (fun _ _ _ _ => none) (fun _ i => Y_st_valuesBelow_4 N  i S v) n
theorem sY_st_valuesBelow_4 (N : Nat)  (i4 : Nat → Int32 → Int32 → Int32 → Option Int32) (S : shp) (v : vl)  (j4 : ∀ (p0 : Nat) (p1 : Int32) (p2 : Int32) (p3 : Int32), SimK B_st_valuesBelow 4 [some (.ref p0), some (.int p1), some (.int p2), some (.int p3)] [] S v (i4 p0 p1 p2 p3) (ρri S v))  (p0 : Nat) (p1 : Int32) (p2 : Int32) (p3 : Int32) : SimK B_st_valuesBelow 4 [some (.ref p0), some (.int p1), some (.int p2), some (.int p3)] [] S v (Y_st_valuesBelow_4 N  i4 S v  p0 p1 p2 p3) (ρri S v) := by
  unfold Y_st_valuesBelow_4
  refine sim_grd fun h1 => ?_
  refine sim_seg [(.iload_n 3, 0, 0, 0), (.aload_n 0, 0, 0, 0), (.getfield 50, 4, 5, 0)] [] (q := 9) (L' := [some (.ref p0), some (.int p1), some (.int p2), some (.int p3)]) (st' := [.int (gi v p0 5), .int p3]) (v1 := v) (by decide +kernel) rfl ⟨h1, trivial⟩ ?_
  refine sim_ge (o := 21) (tg := 30) (f := 12) (by decide +kernel) rfl rfl (fun _ => ?_) (fun _ => ?_)
  · refine sim_seg [(.aload_n 0, 0, 0, 0), (.iload_n 3, 0, 0, 0)] [] (q := 14) (L' := [some (.ref p0), some (.int p1), some (.int p2), some (.int p3)]) (st' := [.int p3, .ref p0]) (v1 := v) (by decide +kernel) rfl trivial ?_
    refine sc_ri (pc3 := 17) (cf_V (idx := 149) (ci := 4) [.int p3] m_st_valueAt (by decide) ⟨by decide, by decide⟩ (List.mem_of_getElem? (i := 834) (by decide +kernel)) rfl (Nat.le_of_ble_eq_true rfl) h1 (by decide +kernel) (Nat.le_of_ble_eq_true rfl) rfl) (ok_st_valueAt p0 p3 S v) rfl (fun x2 => ?_)
    refine sim_seg [(.iload_n 1, 0, 0, 0)] [] (q := 18) (L' := [some (.ref p0), some (.int p1), some (.int p2), some (.int p3)]) (st' := [.int p1, .int x2]) (v1 := v) (by decide +kernel) rfl trivial ?_
    refine sim_ge (o := 6) (tg := 24) (f := 21) (by decide +kernel) rfl rfl (fun _ => ?_) (fun _ => ?_)
    · refine sim_seg [(.iinc 2 1, 0, 0, 1)] [] (q := 24) (L' := [some (.ref p0), some (.int p1), some (.int (p2 + (J 1))), some (.int p3)]) (st' := []) (v1 := v) (by decide +kernel) rfl trivial ?_
      refine sim_seg [(.iinc 3 1, 0, 0, 1)] [] (q := 27) (L' := [some (.ref p0), some (.int p1), some (.int (p2 + (J 1))), some (.int (p3 + (J 1)))]) (st' := []) (v1 := v) (by decide +kernel) rfl trivial ?_
      refine sim_seg [(.goto (-23), 0, 0, 0)] [] (q := 4) (L' := [some (.ref p0), some (.int p1), some (.int (p2 + (J 1))), some (.int (p3 + (J 1)))]) (st' := []) (v1 := v) (by decide +kernel) rfl trivial ?_
      exact j4 p0 p1 (p2 + (J 1)) (p3 + (J 1))
    · refine sim_seg [(.iinc 3 1, 0, 0, 1)] [] (q := 27) (L' := [some (.ref p0), some (.int p1), some (.int p2), some (.int (p3 + (J 1)))]) (st' := []) (v1 := v) (by decide +kernel) rfl trivial ?_
      refine sim_seg [(.goto (-23), 0, 0, 0)] [] (q := 4) (L' := [some (.ref p0), some (.int p1), some (.int p2), some (.int (p3 + (J 1)))]) (st' := []) (v1 := v) (by decide +kernel) rfl trivial ?_
      exact j4 p0 p1 p2 (p3 + (J 1))
  · refine sim_seg [(.iload_n 2, 0, 0, 0)] [] (q := 31) (L' := [some (.ref p0), some (.int p1), some (.int p2), some (.int p3)]) (st' := [.int p2]) (v1 := v) (by decide +kernel) rfl trivial ?_
    exact sim_iret (by decide +kernel) rfl rfl rfl
theorem sR_st_valuesBelow_4 (N : Nat)  (S : shp) (v : vl)  (n : Nat) : ∀  (p0 : Nat) (p1 : Int32) (p2 : Int32) (p3 : Int32), SimK B_st_valuesBelow 4 [some (.ref p0), some (.int p1), some (.int p2), some (.int p3)] [] S v (K_st_valuesBelow_4 N  n S v  p0 p1 p2 p3) (ρri S v) := by
  induction n with
  | zero => intro p0 p1 p2 p3; exact sim_none
  | succ k ih => intro p0 p1 p2 p3; exact sY_st_valuesBelow_4 N   _ S v  ih p0 p1 p2 p3
theorem sK_st_valuesBelow_4 (N : Nat)  (n : Nat) (S : shp) (v : vl) (p0 : Nat) (p1 : Int32) (p2 : Int32) (p3 : Int32) : SimK B_st_valuesBelow 4 [some (.ref p0), some (.int p1), some (.int p2), some (.int p3)] [] S v (K_st_valuesBelow_4 N  n S v  p0 p1 p2 p3) (ρri S v) := sR_st_valuesBelow_4 N   S v  n  p0 p1 p2 p3
noncomputable def F_st_valuesBelow (N : Nat) (a0 : Nat) (b1 : Int32) (S : shp) (v : vl) : Option Int32 :=
  K_st_valuesBelow_4 N  N S v a0 b1 (J 0) (J 0)
theorem ok_st_valuesBelow (N : Nat) (a0 : Nat) (b1 : Int32) (S : shp) (v : vl) : SimK B_st_valuesBelow 0 (entB (bN B_st_valuesBelow) [.ref a0, .int b1]) [] S v (F_st_valuesBelow N a0 b1 S v) (ρri S v) := by
  show SimK B_st_valuesBelow 0 [some (.ref a0), some (.int b1), none, none] [] S v (F_st_valuesBelow N a0 b1 S v) _
  unfold F_st_valuesBelow
  refine sim_seg [(.iconst 0, 0, 0, 0), (.istore_n 2, 0, 0, 0)] [] (q := 2) (L' := [some (.ref a0), some (.int b1), some (.int (J 0)), none]) (st' := []) (v1 := v) (by decide +kernel) rfl trivial ?_
  refine sim_seg [(.iconst 0, 0, 0, 0), (.istore_n 3, 0, 0, 0)] [] (q := 4) (L' := [some (.ref a0), some (.int b1), some (.int (J 0)), some (.int (J 0))]) (st' := []) (v1 := v) (by decide +kernel) rfl trivial ?_
  exact sK_st_valuesBelow_4 N N S v a0 b1 (J 0) (J 0)
def B_gc_median : bd := (⟨"GateCounter", "median", "()I"⟩, prog_1_method_42_code, 4, (some .int), [], 5, 3)
theorem m_gc_median : mV B_gc_median 5 0 := ⟨⟨⟨by decide +kernel, Or.inl rfl⟩, rfl, (List.mem_of_getElem? (i := 829) (by decide +kernel)), by decide +kernel, (List.mem_of_getElem? (i := 95) (by decide +kernel)), ⟨by decide, by decide⟩, by decide⟩, rfl, (by unfold nar; decide +kernel), (List.mem_of_getElem? (i := 827) (by decide +kernel)), rfl, (List.mem_of_getElem? (i := 828) (by decide +kernel))⟩
noncomputable def Y_gc_median_14 (N : Nat)  (i14 : Nat → Int32 → Int32 → Option Int32) (S : shp) (v : vl)  (p0 : Nat) (p1 : Int32) (p2 : Int32) : Option Int32 :=
  grd (kin S p0 = some (0, 5)) <| (gr S p0 5).bind fun r7 => grd (kin S r7 = some (0, 4)) <| (if p2 < (gi v r7 5) then (F_st_valueAt r7 p2 S v).bind fun x10 => (F_st_valuesBelow N r7 x10 S v).bind fun x11 => (if p1 < x11 then i14 p0 p1 (p2 + (J 1)) else (F_st_valuesBelow N r7 (x10 + (J 1)) S v).bind fun x12 => (if p1 < x12 then some (x10) else i14 p0 p1 (p2 + (J 1)))) else some ((J (-1))))
noncomputable def K_gc_median_14 (N : Nat)  (n : Nat) (S : shp) (v : vl) : Nat → Int32 → Int32 → Option Int32 :=
  Nat.rec (motive := fun _ => Nat → Int32 → Int32 → Option Int32) (fun _ _ _ => none) (fun _ i => Y_gc_median_14 N  i S v) n
theorem sY_gc_median_14 (N : Nat)  (i14 : Nat → Int32 → Int32 → Option Int32) (S : shp) (v : vl)  (j14 : ∀ (p0 : Nat) (p1 : Int32) (p2 : Int32), SimK B_gc_median 14 [some (.ref p0), some (.int p1), some (.int p2), none] [] S v (i14 p0 p1 p2) (ρri S v))  (p0 : Nat) (p1 : Int32) (p2 : Int32) : SimK B_gc_median 14 [some (.ref p0), some (.int p1), some (.int p2), none] [] S v (Y_gc_median_14 N  i14 S v  p0 p1 p2) (ρri S v) := by
  unfold Y_gc_median_14
  refine sim_grd fun h6 => ?_
  refine sim_bind fun r7 h8 => ?_
  refine sim_grd fun h9 => ?_
  refine sim_seg [(.iload_n 2, 0, 0, 0), (.aload_n 0, 0, 0, 0), (.getfield 26, 5, 5, 0), (.getfield 106, 4, 5, 0)] [r7] (q := 22) (L' := [some (.ref p0), some (.int p1), some (.int p2), none]) (st' := [.int (gi v r7 5), .int p2]) (v1 := v) (by decide +kernel) rfl ⟨⟨h6, h8⟩, h9, trivial⟩ ?_
  refine sim_ge (o := 46) (tg := 68) (f := 25) (by decide +kernel) rfl rfl (fun _ => ?_) (fun _ => ?_)
  · refine sim_seg [(.aload_n 0, 0, 0, 0), (.getfield 26, 5, 5, 0), (.iload_n 2, 0, 0, 0)] [r7] (q := 30) (L' := [some (.ref p0), some (.int p1), some (.int p2), none]) (st' := [.int p2, .ref r7]) (v1 := v) (by decide +kernel) rfl ⟨⟨h6, h8⟩, trivial⟩ ?_
    refine sc_ri (pc3 := 33) (cf_V (idx := 277) (ci := 4) [.int p2] m_st_valueAt (by decide) ⟨by decide, by decide⟩ (List.mem_of_getElem? (i := 822) (by decide +kernel)) rfl (Nat.le_of_ble_eq_true rfl) h9 (by decide +kernel) (Nat.le_of_ble_eq_true rfl) rfl) (ok_st_valueAt r7 p2 S v) rfl (fun x10 => ?_)
    refine sim_seg [(.istore_n 3, 0, 0, 0)] [] (q := 34) (L' := [some (.ref p0), some (.int p1), some (.int p2), some (.int x10)]) (st' := []) (v1 := v) (by decide +kernel) rfl trivial ?_
    refine sim_seg [(.aload_n 0, 0, 0, 0), (.getfield 26, 5, 5, 0), (.iload_n 3, 0, 0, 0)] [r7] (q := 39) (L' := [some (.ref p0), some (.int p1), some (.int p2), some (.int x10)]) (st' := [.int x10, .ref r7]) (v1 := v) (by decide +kernel) rfl ⟨⟨h6, h8⟩, trivial⟩ ?_
    refine sc_ri (pc3 := 42) (cf_V (idx := 280) (ci := 4) [.int x10] m_st_valuesBelow (by decide) ⟨by decide, by decide⟩ (List.mem_of_getElem? (i := 830) (by decide +kernel)) rfl (Nat.le_of_ble_eq_true rfl) h9 (by decide +kernel) (Nat.le_of_ble_eq_true rfl) rfl) (ok_st_valuesBelow N r7 x10 S v) rfl (fun x11 => ?_)
    refine sim_seg [(.iload_n 1, 0, 0, 0)] [] (q := 43) (L' := [some (.ref p0), some (.int p1), some (.int p2), some (.int x10)]) (st' := [.int p1, .int x11]) (v1 := v) (by decide +kernel) rfl trivial ?_
    refine sim_gt (o := 19) (tg := 62) (f := 46) (by decide +kernel) rfl rfl (fun _ => ?_) (fun _ => ?_)
    · refine sim_seg [(.iinc 2 1, 0, 0, 1)] [] (q := 65) (L' := [some (.ref p0), some (.int p1), some (.int (p2 + (J 1))), some (.int x10)]) (st' := []) (v1 := v) (by decide +kernel) rfl trivial ?_
      refine sim_seg [(.goto (-51), 0, 0, 0)] [] (q := 14) (L' := [some (.ref p0), some (.int p1), some (.int (p2 + (J 1))), some (.int x10)]) (st' := []) (v1 := v) (by decide +kernel) rfl trivial ?_
      exact sim_wk (L0 := [some (.ref p0), some (.int p1), some (.int (p2 + (J 1))), none]) ⟨rfl, rfl, rfl, trivial⟩ (j14 p0 p1 (p2 + (J 1)))
    · refine sim_seg [(.iload_n 1, 0, 0, 0), (.aload_n 0, 0, 0, 0), (.getfield 26, 5, 5, 0), (.iload_n 3, 0, 0, 0), (.iconst 1, 0, 0, 1), (.iadd, 0, 0, 0)] [r7] (q := 54) (L' := [some (.ref p0), some (.int p1), some (.int p2), some (.int x10)]) (st' := [.int (x10 + (J 1)), .ref r7, .int p1]) (v1 := v) (by decide +kernel) rfl ⟨⟨h6, h8⟩, trivial⟩ ?_
      refine sc_ri (pc3 := 57) (cf_V (idx := 280) (ci := 4) [.int (x10 + (J 1))] m_st_valuesBelow (by decide) ⟨by decide, by decide⟩ (List.mem_of_getElem? (i := 830) (by decide +kernel)) rfl (Nat.le_of_ble_eq_true rfl) h9 (by decide +kernel) (Nat.le_of_ble_eq_true rfl) rfl) (ok_st_valuesBelow N r7 (x10 + (J 1)) S v) rfl (fun x12 => ?_)
      refine sim_ge (o := 5) (tg := 62) (f := 60) (by decide +kernel) rfl rfl (fun _ => ?_) (fun _ => ?_)
      · refine sim_seg [(.iload_n 3, 0, 0, 0)] [] (q := 61) (L' := [some (.ref p0), some (.int p1), some (.int p2), some (.int x10)]) (st' := [.int x10]) (v1 := v) (by decide +kernel) rfl trivial ?_
        exact sim_iret (by decide +kernel) rfl rfl rfl
      · refine sim_seg [(.iinc 2 1, 0, 0, 1)] [] (q := 65) (L' := [some (.ref p0), some (.int p1), some (.int (p2 + (J 1))), some (.int x10)]) (st' := []) (v1 := v) (by decide +kernel) rfl trivial ?_
        refine sim_seg [(.goto (-51), 0, 0, 0)] [] (q := 14) (L' := [some (.ref p0), some (.int p1), some (.int (p2 + (J 1))), some (.int x10)]) (st' := []) (v1 := v) (by decide +kernel) rfl trivial ?_
        exact sim_wk (L0 := [some (.ref p0), some (.int p1), some (.int (p2 + (J 1))), none]) ⟨rfl, rfl, rfl, trivial⟩ (j14 p0 p1 (p2 + (J 1)))
  · refine sim_seg [(.iconst (-1), 0, 0, (-1))] [] (q := 69) (L' := [some (.ref p0), some (.int p1), some (.int p2), none]) (st' := [.int (J (-1))]) (v1 := v) (by decide +kernel) rfl trivial ?_
    exact sim_iret (by decide +kernel) rfl rfl rfl
theorem sR_gc_median_14 (N : Nat)  (S : shp) (v : vl)  (n : Nat) : ∀  (p0 : Nat) (p1 : Int32) (p2 : Int32), SimK B_gc_median 14 [some (.ref p0), some (.int p1), some (.int p2), none] [] S v (K_gc_median_14 N  n S v  p0 p1 p2) (ρri S v) := by
  induction n with
  | zero => intro p0 p1 p2; exact sim_none
  | succ k ih => intro p0 p1 p2; exact sY_gc_median_14 N   _ S v  ih p0 p1 p2
theorem sK_gc_median_14 (N : Nat)  (n : Nat) (S : shp) (v : vl) (p0 : Nat) (p1 : Int32) (p2 : Int32) : SimK B_gc_median 14 [some (.ref p0), some (.int p1), some (.int p2), none] [] S v (K_gc_median_14 N  n S v  p0 p1 p2) (ρri S v) := sR_gc_median_14 N   S v  n  p0 p1 p2
noncomputable def F_gc_median (N : Nat) (a0 : Nat) (S : shp) (v : vl) : Option Int32 :=
  grd (kin S a0 = some (0, 5)) <| (gr S a0 5).bind fun r2 => grd (kin S r2 = some (0, 4)) <| lt (((gi v r2 5) - (J 1)) / (J 2)) fun x5 => K_gc_median_14 N  N S v a0 x5 (J 0)
theorem ok_gc_median (N : Nat) (a0 : Nat) (S : shp) (v : vl) : SimK B_gc_median 0 (entB (bN B_gc_median) [.ref a0]) [] S v (F_gc_median N a0 S v) (ρri S v) := by
  show SimK B_gc_median 0 [some (.ref a0), none, none, none] [] S v (F_gc_median N a0 S v) _
  unfold F_gc_median
  refine sim_grd fun h1 => ?_
  refine sim_bind fun r2 h3 => ?_
  refine sim_grd fun h4 => ?_
  refine sim_seg [(.aload_n 0, 0, 0, 0), (.getfield 26, 5, 5, 0), (.getfield 106, 4, 5, 0), (.iconst 1, 0, 0, 1), (.isub, 0, 0, 0), (.iconst 2, 0, 0, 2), (.idiv, 0, 0, 0), (.istore_n 1, 0, 0, 0)] [r2] (q := 12) (L' := [some (.ref a0), some (.int (((gi v r2 5) - (J 1)) / (J 2))), none, none]) (st' := []) (v1 := v) (by decide +kernel) rfl ⟨⟨h1, h3⟩, h4, (by decide), trivial⟩ ?_
  refine sim_nm (((gi v r2 5) - (J 1)) / (J 2)) (fun x5 => [some (.ref a0), some (.int x5), none, none]) (fun x5 => []) (fun x5 => ?_) rfl rfl
  refine sim_seg [(.iconst 0, 0, 0, 0), (.istore_n 2, 0, 0, 0)] [] (q := 14) (L' := [some (.ref a0), some (.int x5), some (.int (J 0)), none]) (st' := []) (v1 := v) (by decide +kernel) rfl trivial ?_
  exact sK_gc_median_14 N N S v a0 x5 (J 0)
