/-! Methods: gm_isSegmentNext, gm_segmentComes, gm_comes, gm_goesTo, gm_thinks, gm_moreIn, gm_noTicks, gm_edgesIn, gm_outputsIn, gm_clocksIn, gm_driftIn, gm_waitsFor, gm_nextOutput, gm_changesIn, gm_noNumber, gm_timeOfEdge, gm_timeOfClock, gm_wobble, gm_longestSilence. -/
def B_gm_isSegmentNext : bd := (⟨"GateCounterModel", "isSegmentNext", "(I)Z"⟩, prog_8_method_13_code, 3, (some .boolean), [], 6, 1)
theorem m_gm_isSegmentNext : mV B_gm_isSegmentNext 6 1 := ⟨⟨⟨by decide +kernel, Or.inl rfl⟩, rfl, (List.mem_of_getElem? (i := 1899) (by decide +kernel)), by decide +kernel, (List.mem_of_getElem? (i := 104) (by decide +kernel)), ⟨by decide, by decide⟩, by decide⟩, rfl, (by unfold nar; decide +kernel), (List.mem_of_getElem? (i := 1898) (by decide +kernel)), rfl, (List.mem_of_getElem? (i := 62) (by decide +kernel))⟩
noncomputable def F_gm_isSegmentNext (a0 : Nat) (b1 : Int32) (S : shp) (v : vl) : Option Int32 :=
  grd (kin S a0 = some (0, 6)) <| (gr S a0 0).bind fun r2 => grd (kin S r2 = some (1, 199)) <| (if (gi v r2 20) = (gi v r2 19) then some ((J 0)) else (F_gm_segmentTime a0 (gi v r2 20) S v).bind fun x5 => (if b1 < x5 then some ((J 0)) else (if (gi v r2 9) < x5 then some ((J 0)) else (if (gi v r2 13) = (J (-1)) then some ((J 1)) else (if (gi v r2 13) < x5 then some ((J 0)) else some ((J 1)))))))
theorem ok_gm_isSegmentNext (a0 : Nat) (b1 : Int32) (S : shp) (v : vl) : SimK B_gm_isSegmentNext 0 (entB (bN B_gm_isSegmentNext) [.ref a0, .int b1]) [] S v (F_gm_isSegmentNext a0 b1 S v) (ρri S v) := by
  show SimK B_gm_isSegmentNext 0 [some (.ref a0), some (.int b1), none] [] S v (F_gm_isSegmentNext a0 b1 S v) _
  unfold F_gm_isSegmentNext
  refine sim_grd fun h1 => ?_
  refine sim_bind fun r2 h3 => ?_
  refine sim_grd fun h4 => ?_
  refine sim_seg [(.aload_n 0, 0, 0, 0), (.getfield 7, 6, 0, 0), (.bipush 20, 0, 0, 20), (.iaload, 0, 0, 0), (.aload_n 0, 0, 0, 0), (.getfield 7, 6, 0, 0), (.bipush 19, 0, 0, 19), (.iaload, 0, 0, 0)] [r2, r2] (q := 14) (L' := [some (.ref a0), some (.int b1), none]) (st' := [.int (gi v r2 19), .int (gi v r2 20)]) (v1 := v) (by decide +kernel) rfl ⟨⟨h1, h3⟩, ⟨(Or.inl (kin_alen h4)), (vin_J h4 (by unfold vp_in; decide))⟩, ⟨h1, h3⟩, ⟨(Or.inl (kin_alen h4)), (vin_J h4 (by unfold vp_in; decide))⟩, trivial⟩ ?_
  refine sim_ne (o := 5) (tg := 19) (f := 17) (by decide +kernel) rfl rfl (fun _ => ?_) (fun _ => ?_)
  · refine sim_seg [(.iconst 0, 0, 0, 0)] [] (q := 18) (L' := [some (.ref a0), some (.int b1), none]) (st' := [.int (J 0)]) (v1 := v) (by decide +kernel) rfl trivial ?_
    exact sim_iret (by decide +kernel) rfl (by decide) rfl
  · refine sim_seg [(.aload_n 0, 0, 0, 0), (.aload_n 0, 0, 0, 0), (.getfield 7, 6, 0, 0), (.bipush 20, 0, 0, 20), (.iaload, 0, 0, 0)] [r2] (q := 27) (L' := [some (.ref a0), some (.int b1), none]) (st' := [.int (gi v r2 20), .ref a0]) (v1 := v) (by decide +kernel) rfl ⟨⟨h1, h3⟩, ⟨(Or.inl (kin_alen h4)), (vin_J h4 (by unfold vp_in; decide))⟩, trivial⟩ ?_
    refine sc_ri (pc3 := 30) (cf_V (idx := 56) (ci := 6) [.int (gi v r2 20)] m_gm_segmentTime (by decide) ⟨by decide, by decide⟩ (List.mem_of_getElem? (i := 1803) (by decide +kernel)) rfl (Nat.le_of_ble_eq_true rfl) h1 (by decide +kernel) (Nat.le_of_ble_eq_true rfl) rfl) (ok_gm_segmentTime a0 (gi v r2 20) S v) rfl (fun x5 => ?_)
    refine sim_seg [(.istore_n 2, 0, 0, 0)] [] (q := 31) (L' := [some (.ref a0), some (.int b1), some (.int x5)]) (st' := []) (v1 := v) (by decide +kernel) rfl trivial ?_
    refine sim_seg [(.iload_n 2, 0, 0, 0), (.iload_n 1, 0, 0, 0)] [] (q := 33) (L' := [some (.ref a0), some (.int b1), some (.int x5)]) (st' := [.int b1, .int x5]) (v1 := v) (by decide +kernel) rfl trivial ?_
    refine sim_gt (o := 40) (tg := 73) (f := 36) (by decide +kernel) rfl rfl (fun _ => ?_) (fun _ => ?_)
    · refine sim_seg [(.iconst 0, 0, 0, 0)] [] (q := 74) (L' := [some (.ref a0), some (.int b1), some (.int x5)]) (st' := [.int (J 0)]) (v1 := v) (by decide +kernel) rfl trivial ?_
      exact sim_iret (by decide +kernel) rfl (by decide) rfl
    · refine sim_seg [(.iload_n 2, 0, 0, 0), (.aload_n 0, 0, 0, 0), (.getfield 7, 6, 0, 0), (.bipush 9, 0, 0, 9), (.iaload, 0, 0, 0)] [r2] (q := 44) (L' := [some (.ref a0), some (.int b1), some (.int x5)]) (st' := [.int (gi v r2 9), .int x5]) (v1 := v) (by decide +kernel) rfl ⟨⟨h1, h3⟩, ⟨(Or.inl (kin_alen h4)), (vin_J h4 (by unfold vp_in; decide))⟩, trivial⟩ ?_
      refine sim_gt (o := 29) (tg := 73) (f := 47) (by decide +kernel) rfl rfl (fun _ => ?_) (fun _ => ?_)
      · refine sim_seg [(.iconst 0, 0, 0, 0)] [] (q := 74) (L' := [some (.ref a0), some (.int b1), some (.int x5)]) (st' := [.int (J 0)]) (v1 := v) (by decide +kernel) rfl trivial ?_
        exact sim_iret (by decide +kernel) rfl (by decide) rfl
      · refine sim_seg [(.aload_n 0, 0, 0, 0), (.getfield 7, 6, 0, 0), (.bipush 13, 0, 0, 13), (.iaload, 0, 0, 0), (.iconst (-1), 0, 0, (-1))] [r2] (q := 55) (L' := [some (.ref a0), some (.int b1), some (.int x5)]) (st' := [.int (J (-1)), .int (gi v r2 13)]) (v1 := v) (by decide +kernel) rfl ⟨⟨h1, h3⟩, ⟨(Or.inl (kin_alen h4)), (vin_J h4 (by unfold vp_in; decide))⟩, trivial⟩ ?_
        refine sim_eq (o := 14) (tg := 69) (f := 58) (by decide +kernel) rfl rfl (fun _ => ?_) (fun _ => ?_)
        · refine sim_seg [(.iconst 1, 0, 0, 1), (.goto 4, 0, 0, 0)] [] (q := 74) (L' := [some (.ref a0), some (.int b1), some (.int x5)]) (st' := [.int (J 1)]) (v1 := v) (by decide +kernel) rfl trivial ?_
          exact sim_iret (by decide +kernel) rfl (by decide) rfl
        · refine sim_seg [(.iload_n 2, 0, 0, 0), (.aload_n 0, 0, 0, 0), (.getfield 7, 6, 0, 0), (.bipush 13, 0, 0, 13), (.iaload, 0, 0, 0)] [r2] (q := 66) (L' := [some (.ref a0), some (.int b1), some (.int x5)]) (st' := [.int (gi v r2 13), .int x5]) (v1 := v) (by decide +kernel) rfl ⟨⟨h1, h3⟩, ⟨(Or.inl (kin_alen h4)), (vin_J h4 (by unfold vp_in; decide))⟩, trivial⟩ ?_
          refine sim_gt (o := 7) (tg := 73) (f := 69) (by decide +kernel) rfl rfl (fun _ => ?_) (fun _ => ?_)
          · refine sim_seg [(.iconst 0, 0, 0, 0)] [] (q := 74) (L' := [some (.ref a0), some (.int b1), some (.int x5)]) (st' := [.int (J 0)]) (v1 := v) (by decide +kernel) rfl trivial ?_
            exact sim_iret (by decide +kernel) rfl (by decide) rfl
          · refine sim_seg [(.iconst 1, 0, 0, 1), (.goto 4, 0, 0, 0)] [] (q := 74) (L' := [some (.ref a0), some (.int b1), some (.int x5)]) (st' := [.int (J 1)]) (v1 := v) (by decide +kernel) rfl trivial ?_
            exact sim_iret (by decide +kernel) rfl (by decide) rfl
def B_gm_segmentComes : bd := (⟨"GateCounterModel", "segmentComes", "()V"⟩, prog_8_method_14_code, 1, none, [], 6, 1)
theorem m_gm_segmentComes : mV B_gm_segmentComes 6 0 := ⟨⟨⟨by decide +kernel, Or.inl rfl⟩, rfl, (List.mem_of_getElem? (i := 1903) (by decide +kernel)), by decide +kernel, (List.mem_of_getElem? (i := 104) (by decide +kernel)), ⟨by decide, by decide⟩, by decide⟩, rfl, (by unfold nar; decide +kernel), (List.mem_of_getElem? (i := 1902) (by decide +kernel)), rfl, (List.mem_of_getElem? (i := 63) (by decide +kernel))⟩
noncomputable def F_gm_segmentComes (a0 : Nat) (S : shp) (v : vl) : Option vl :=
  grd (kin S a0 = some (0, 6)) <| (gr S a0 0).bind fun r2 => grd (kin S r2 = some (1, 199)) <| (F_gm_segmentTime a0 (gi v r2 20) S v).bind fun x5 => lt (si v r2 0 x5) fun w6 => grd (vp_in (((J 23) + ((J 2) * (gi w6 r2 20))) + (J 1)) (alen S r2)) <| lt (si w6 r2 12 (gi w6 r2 (Int32.toNatClampNeg (((J 23) + ((J 2) * (gi w6 r2 20))) + (J 1))))) fun w8 => (if (gi w8 r2 12) = (J 0) then lt (si w8 r2 13 (J (-1))) fun w9 => lt (si w9 r2 20 ((gi w9 r2 20) + (J 1))) fun w10 => some (w10) else lt (si w8 r2 13 ((gi w8 r2 0) + (gi w8 r2 12))) fun w11 => lt (si w11 r2 20 ((gi w11 r2 20) + (J 1))) fun w12 => some (w12))
theorem ok_gm_segmentComes (a0 : Nat) (S : shp) (v : vl) : SimK B_gm_segmentComes 0 (entB (bN B_gm_segmentComes) [.ref a0]) [] S v (F_gm_segmentComes a0 S v) (ρpv S) := by
  show SimK B_gm_segmentComes 0 [some (.ref a0)] [] S v (F_gm_segmentComes a0 S v) _
  unfold F_gm_segmentComes
  refine sim_grd fun h1 => ?_
  refine sim_bind fun r2 h3 => ?_
  refine sim_grd fun h4 => ?_
  refine sim_seg [(.aload_n 0, 0, 0, 0), (.getfield 7, 6, 0, 0), (.iconst 0, 0, 0, 0), (.aload_n 0, 0, 0, 0), (.aload_n 0, 0, 0, 0), (.getfield 7, 6, 0, 0), (.bipush 20, 0, 0, 20), (.iaload, 0, 0, 0)] [r2, r2] (q := 13) (L' := [some (.ref a0)]) (st' := [.int (gi v r2 20), .ref a0, .int (J 0), .ref r2]) (v1 := v) (by decide +kernel) rfl ⟨⟨h1, h3⟩, ⟨h1, h3⟩, ⟨(Or.inl (kin_alen h4)), (vin_J h4 (by unfold vp_in; decide))⟩, trivial⟩ ?_
  refine sc_ri (pc3 := 16) (cf_V (idx := 56) (ci := 6) [.int (gi v r2 20)] m_gm_segmentTime (by decide) ⟨by decide, by decide⟩ (List.mem_of_getElem? (i := 1803) (by decide +kernel)) rfl (Nat.le_of_ble_eq_true rfl) h1 (by decide +kernel) (Nat.le_of_ble_eq_true rfl) rfl) (ok_gm_segmentTime a0 (gi v r2 20) S v) rfl (fun x5 => ?_)
  refine sim_seg [(.iastore, 0, 0, 0), (.aload_n 0, 0, 0, 0)] [] (q := 18) (L' := [some (.ref a0)]) (st' := [.ref a0]) (v1 := (si v r2 0 x5)) (by decide +kernel) rfl ⟨⟨(kin_alen h4), (vin_J h4 (by unfold vp_in; decide))⟩, trivial⟩ ?_
  refine sim_lt (x := (si v r2 0 x5)) ?_
  generalize (si v r2 0 x5) = w6
  refine sim_seg [(.getfield 7, 6, 0, 0), (.bipush 12, 0, 0, 12), (.aload_n 0, 0, 0, 0), (.getfield 7, 6, 0, 0), (.bipush 23, 0, 0, 23), (.iconst 2, 0, 0, 2), (.aload_n 0, 0, 0, 0), (.getfield 7, 6, 0, 0), (.bipush 20, 0, 0, 20), (.iaload, 0, 0, 0), (.imul, 0, 0, 0), (.iadd, 0, 0, 0)] [r2, r2, r2] (q := 39) (L' := [some (.ref a0)]) (st' := [.int ((J 23) + ((J 2) * (gi w6 r2 20))), .ref r2, .int (J 12), .ref r2]) (v1 := w6) (by decide +kernel) rfl ⟨⟨h1, h3⟩, ⟨h1, h3⟩, ⟨h1, h3⟩, ⟨(Or.inl (kin_alen h4)), (vin_J h4 (by unfold vp_in; decide))⟩, trivial⟩ ?_
  refine sim_grd fun h7 => ?_
  refine sim_seg [(.iconst 1, 0, 0, 1), (.iadd, 0, 0, 0), (.iaload, 0, 0, 0), (.iastore, 0, 0, 0), (.aload_n 0, 0, 0, 0)] [] (q := 44) (L' := [some (.ref a0)]) (st' := [.ref a0]) (v1 := (si w6 r2 12 (gi w6 r2 (Int32.toNatClampNeg (((J 23) + ((J 2) * (gi w6 r2 20))) + (J 1)))))) (by decide +kernel) rfl ⟨⟨(Or.inl (kin_alen h4)), h7⟩, ⟨(kin_alen h4), (vin_J h4 (by unfold vp_in; decide))⟩, trivial⟩ ?_
  refine sim_lt (x := (si w6 r2 12 (gi w6 r2 (Int32.toNatClampNeg (((J 23) + ((J 2) * (gi w6 r2 20))) + (J 1)))))) ?_
  generalize (si w6 r2 12 (gi w6 r2 (Int32.toNatClampNeg (((J 23) + ((J 2) * (gi w6 r2 20))) + (J 1))))) = w8
  refine sim_seg [(.getfield 7, 6, 0, 0), (.bipush 13, 0, 0, 13), (.aload_n 0, 0, 0, 0), (.getfield 7, 6, 0, 0), (.bipush 12, 0, 0, 12), (.iaload, 0, 0, 0)] [r2, r2] (q := 56) (L' := [some (.ref a0)]) (st' := [.int (gi w8 r2 12), .int (J 13), .ref r2]) (v1 := w8) (by decide +kernel) rfl ⟨⟨h1, h3⟩, ⟨h1, h3⟩, ⟨(Or.inl (kin_alen h4)), (vin_J h4 (by unfold vp_in; decide))⟩, trivial⟩ ?_
  refine sim_ne0 (o := 7) (tg := 63) (f := 59) (by decide +kernel) rfl rfl (fun _ => ?_) (fun _ => ?_)
  · refine sim_seg [(.iconst (-1), 0, 0, (-1)), (.goto 17, 0, 0, 0), (.iastore, 0, 0, 0), (.aload_n 0, 0, 0, 0)] [] (q := 79) (L' := [some (.ref a0)]) (st' := [.ref a0]) (v1 := (si w8 r2 13 (J (-1)))) (by decide +kernel) rfl ⟨⟨(kin_alen h4), (vin_J h4 (by unfold vp_in; decide))⟩, trivial⟩ ?_
    refine sim_lt (x := (si w8 r2 13 (J (-1)))) ?_
    generalize (si w8 r2 13 (J (-1))) = w9
    refine sim_seg [(.getfield 7, 6, 0, 0), (.bipush 20, 0, 0, 20), (.dup2, 0, 0, 0), (.iaload, 0, 0, 0), (.iconst 1, 0, 0, 1), (.iadd, 0, 0, 0), (.iastore, 0, 0, 0)] [r2] (q := 89) (L' := [some (.ref a0)]) (st' := []) (v1 := (si w9 r2 20 ((gi w9 r2 20) + (J 1)))) (by decide +kernel) rfl ⟨⟨h1, h3⟩, ⟨(Or.inl (kin_alen h4)), (vin_J h4 (by unfold vp_in; decide))⟩, ⟨(kin_alen h4), (vin_J h4 (by unfold vp_in; decide))⟩, trivial⟩ ?_
    refine sim_lt (x := (si w9 r2 20 ((gi w9 r2 20) + (J 1)))) ?_
    generalize (si w9 r2 20 ((gi w9 r2 20) + (J 1))) = w10
    exact sim_vret (by decide +kernel) rfl rfl
  · refine sim_seg [(.aload_n 0, 0, 0, 0), (.getfield 7, 6, 0, 0), (.iconst 0, 0, 0, 0), (.iaload, 0, 0, 0), (.aload_n 0, 0, 0, 0), (.getfield 7, 6, 0, 0), (.bipush 12, 0, 0, 12), (.iaload, 0, 0, 0), (.iadd, 0, 0, 0), (.iastore, 0, 0, 0), (.aload_n 0, 0, 0, 0)] [r2, r2] (q := 79) (L' := [some (.ref a0)]) (st' := [.ref a0]) (v1 := (si w8 r2 13 ((gi w8 r2 0) + (gi w8 r2 12)))) (by decide +kernel) rfl ⟨⟨h1, h3⟩, ⟨(Or.inl (kin_alen h4)), (vin_J h4 (by unfold vp_in; decide))⟩, ⟨h1, h3⟩, ⟨(Or.inl (kin_alen h4)), (vin_J h4 (by unfold vp_in; decide))⟩, ⟨(kin_alen h4), (vin_J h4 (by unfold vp_in; decide))⟩, trivial⟩ ?_
    refine sim_lt (x := (si w8 r2 13 ((gi w8 r2 0) + (gi w8 r2 12)))) ?_
    generalize (si w8 r2 13 ((gi w8 r2 0) + (gi w8 r2 12))) = w11
    refine sim_seg [(.getfield 7, 6, 0, 0), (.bipush 20, 0, 0, 20), (.dup2, 0, 0, 0), (.iaload, 0, 0, 0), (.iconst 1, 0, 0, 1), (.iadd, 0, 0, 0), (.iastore, 0, 0, 0)] [r2] (q := 89) (L' := [some (.ref a0)]) (st' := []) (v1 := (si w11 r2 20 ((gi w11 r2 20) + (J 1)))) (by decide +kernel) rfl ⟨⟨h1, h3⟩, ⟨(Or.inl (kin_alen h4)), (vin_J h4 (by unfold vp_in; decide))⟩, ⟨(kin_alen h4), (vin_J h4 (by unfold vp_in; decide))⟩, trivial⟩ ?_
    refine sim_lt (x := (si w11 r2 20 ((gi w11 r2 20) + (J 1)))) ?_
    generalize (si w11 r2 20 ((gi w11 r2 20) + (J 1))) = w12
    exact sim_vret (by decide +kernel) rfl rfl
def B_gm_comes : bd := (⟨"GateCounterModel", "comes", "(I)I"⟩, prog_8_method_18_code, 3, (some .int), [], 6, 3)
theorem m_gm_comes : mV B_gm_comes 6 1 := ⟨⟨⟨by decide +kernel, Or.inl rfl⟩, rfl, (List.mem_of_getElem? (i := 1895) (by decide +kernel)), by decide +kernel, (List.mem_of_getElem? (i := 104) (by decide +kernel)), ⟨by decide, by decide⟩, by decide⟩, rfl, (by unfold nar; decide +kernel), (List.mem_of_getElem? (i := 1894) (by decide +kernel)), rfl, (List.mem_of_getElem? (i := 61) (by decide +kernel))⟩
noncomputable def K_gm_comes_69  (S : shp) (v : vl) (p0 : Nat) (p1 : Int32) (p2 : Int32) (s0 : Int32) : Option (Int32 × vl) :=
  (if p1 < s0 then some (((J 0), v)) else (if p2 = (J 0) then grd (kin S p0 = some (0, 6)) <| (F_gm_clockComes p0 S v).bind fun w11 => some (((J 2), w11)) else grd (kin S p0 = some (0, 6)) <| (F_gm_edgeComes p0 S v).bind fun (x13, w14) => (if x13 = (J 0) then some (((J 3), w14)) else some (((J 4), w14)))))
theorem sK_gm_comes_69   (S : shp) (v : vl) (p0 : Nat) (p1 : Int32) (p2 : Int32) (s0 : Int32) : SimK B_gm_comes 69 [some (.ref p0), some (.int p1), some (.int p2)] [.int s0] S v (K_gm_comes_69   S v p0 p1 p2 s0) (ρpi S) := by
  unfold K_gm_comes_69
  refine sim_seg [(.iload_n 1, 0, 0, 0)] [] (q := 70) (L' := [some (.ref p0), some (.int p1), some (.int p2)]) (st' := [.int p1, .int s0]) (v1 := v) (by decide +kernel) rfl trivial ?_
  refine sim_le (o := 5) (tg := 75) (f := 73) (by decide +kernel) rfl rfl (fun _ => ?_) (fun _ => ?_)
  · refine sim_seg [(.iconst 0, 0, 0, 0)] [] (q := 74) (L' := [some (.ref p0), some (.int p1), some (.int p2)]) (st' := [.int (J 0)]) (v1 := v) (by decide +kernel) rfl trivial ?_
    exact sim_iret (by decide +kernel) rfl rfl rfl
  · refine sim_seg [(.iload_n 2, 0, 0, 0)] [] (q := 76) (L' := [some (.ref p0), some (.int p1), some (.int p2)]) (st' := [.int p2]) (v1 := v) (by decide +kernel) rfl trivial ?_
    refine sim_eq0 (o := 16) (tg := 92) (f := 79) (by decide +kernel) rfl rfl (fun _ => ?_) (fun _ => ?_)
    · refine sim_seg [(.aload_n 0, 0, 0, 0)] [] (q := 93) (L' := [some (.ref p0), some (.int p1), some (.int p2)]) (st' := [.ref p0]) (v1 := v) (by decide +kernel) rfl trivial ?_
      refine sim_grd fun h10 => ?_
      refine sc_pv (pc3 := 96) (cf_V (idx := 86) (ci := 6) [] m_gm_clockComes (by decide) ⟨by decide, by decide⟩ (List.mem_of_getElem? (i := 1908) (by decide +kernel)) rfl (Nat.le_of_ble_eq_true rfl) h10 (by decide +kernel) (Nat.le_of_ble_eq_true rfl) rfl) (ok_gm_clockComes p0 S v) rfl (fun w11 => ?_)
      refine sim_seg [(.iconst 2, 0, 0, 2)] [] (q := 97) (L' := [some (.ref p0), some (.int p1), some (.int p2)]) (st' := [.int (J 2)]) (v1 := w11) (by decide +kernel) rfl trivial ?_
      exact sim_iret (by decide +kernel) rfl rfl rfl
    · refine sim_seg [(.aload_n 0, 0, 0, 0)] [] (q := 80) (L' := [some (.ref p0), some (.int p1), some (.int p2)]) (st' := [.ref p0]) (v1 := v) (by decide +kernel) rfl trivial ?_
      refine sim_grd fun h12 => ?_
      refine sc_pi (pc3 := 83) (cf_V (idx := 82) (ci := 6) [] m_gm_edgeComes (by decide) ⟨by decide, by decide⟩ (List.mem_of_getElem? (i := 1904) (by decide +kernel)) rfl (Nat.le_of_ble_eq_true rfl) h12 (by decide +kernel) (Nat.le_of_ble_eq_true rfl) rfl) (ok_gm_edgeComes p0 S v) rfl (fun x13 w14 => ?_)
      refine sim_eq0 (o := 7) (tg := 90) (f := 86) (by decide +kernel) rfl rfl (fun _ => ?_) (fun _ => ?_)
      · refine sim_seg [(.iconst 3, 0, 0, 3)] [] (q := 91) (L' := [some (.ref p0), some (.int p1), some (.int p2)]) (st' := [.int (J 3)]) (v1 := w14) (by decide +kernel) rfl trivial ?_
        exact sim_iret (by decide +kernel) rfl rfl rfl
      · refine sim_seg [(.iconst 4, 0, 0, 4), (.goto 4, 0, 0, 0)] [] (q := 91) (L' := [some (.ref p0), some (.int p1), some (.int p2)]) (st' := [.int (J 4)]) (v1 := w14) (by decide +kernel) rfl trivial ?_
        exact sim_iret (by decide +kernel) rfl rfl rfl
noncomputable def K_gm_comes_46  (S : shp) (v : vl) (p0 : Nat) (p1 : Int32) : Option (Int32 × vl) :=
  grd (kin S p0 = some (0, 6)) <| (gr S p0 0).bind fun r7 => grd (kin S r7 = some (1, 199)) <| K_gm_comes_69  S v p0 p1 (J 0) (gi v r7 9)
theorem sK_gm_comes_46   (S : shp) (v : vl) (p0 : Nat) (p1 : Int32) : SimK B_gm_comes 46 [some (.ref p0), some (.int p1), none] [] S v (K_gm_comes_46   S v p0 p1) (ρpi S) := by
  unfold K_gm_comes_46
  refine sim_seg [(.iconst 0, 0, 0, 0), (.istore_n 2, 0, 0, 0)] [] (q := 48) (L' := [some (.ref p0), some (.int p1), some (.int (J 0))]) (st' := []) (v1 := v) (by decide +kernel) rfl trivial ?_
  refine sim_seg [(.iload_n 2, 0, 0, 0)] [] (q := 49) (L' := [some (.ref p0), some (.int p1), some (.int (J 0))]) (st' := [.int (J 0)]) (v1 := v) (by decide +kernel) rfl trivial ?_
  refine sim_ifT (c := (J 0) = (J 0)) (by decide) (sim_eq0 (o := 13) (tg := 62) (f := 52) (by decide +kernel) rfl rfl (fun _ => ?_) (fun _ => sim_none))
  refine sim_grd fun h6 => ?_
  refine sim_bind fun r7 h8 => ?_
  refine sim_grd fun h9 => ?_
  refine sim_seg [(.aload_n 0, 0, 0, 0), (.getfield 7, 6, 0, 0), (.bipush 9, 0, 0, 9), (.iaload, 0, 0, 0)] [r7] (q := 69) (L' := [some (.ref p0), some (.int p1), some (.int (J 0))]) (st' := [.int (gi v r7 9)]) (v1 := v) (by decide +kernel) rfl ⟨⟨h6, h8⟩, ⟨(Or.inl (kin_alen h9)), (vin_J h9 (by unfold vp_in; decide))⟩, trivial⟩ ?_
  exact sK_gm_comes_69 S v p0 p1 (J 0) (gi v r7 9)
noncomputable def F_gm_comes (a0 : Nat) (b1 : Int32) (S : shp) (v : vl) : Option (Int32 × vl) :=
  grd (kin S a0 = some (0, 6)) <| (F_gm_isSegmentNext a0 b1 S v).bind fun x2 => (if x2 = (J 0) then (gr S a0 0).bind fun r3 => grd (kin S r3 = some (1, 199)) <| (if (gi v r3 13) = (J (-1)) then K_gm_comes_46  S v a0 b1 else (if (gi v r3 13) < (gi v r3 9) then K_gm_comes_69  S v a0 b1 (J 1) (gi v r3 13) else K_gm_comes_46  S v a0 b1)) else (F_gm_segmentComes a0 S v).bind fun w15 => some (((J 1), w15)))
theorem ok_gm_comes (a0 : Nat) (b1 : Int32) (S : shp) (v : vl) : SimK B_gm_comes 0 (entB (bN B_gm_comes) [.ref a0, .int b1]) [] S v (F_gm_comes a0 b1 S v) (ρpi S) := by
  show SimK B_gm_comes 0 [some (.ref a0), some (.int b1), none] [] S v (F_gm_comes a0 b1 S v) _
  unfold F_gm_comes
  refine sim_seg [(.aload_n 0, 0, 0, 0), (.iload_n 1, 0, 0, 0)] [] (q := 2) (L' := [some (.ref a0), some (.int b1), none]) (st' := [.int b1, .ref a0]) (v1 := v) (by decide +kernel) rfl trivial ?_
  refine sim_grd fun h1 => ?_
  refine sc_ri (pc3 := 5) (cf_V (idx := 75) (ci := 6) [.int b1] m_gm_isSegmentNext (by decide) ⟨by decide, by decide⟩ (List.mem_of_getElem? (i := 1896) (by decide +kernel)) rfl (Nat.le_of_ble_eq_true rfl) h1 (by decide +kernel) (Nat.le_of_ble_eq_true rfl) rfl) (ok_gm_isSegmentNext a0 b1 S v) rfl (fun x2 => ?_)
  refine sim_eq0 (o := 9) (tg := 14) (f := 8) (by decide +kernel) rfl rfl (fun _ => ?_) (fun _ => ?_)
  · refine sim_bind fun r3 h4 => ?_
    refine sim_grd fun h5 => ?_
    refine sim_seg [(.aload_n 0, 0, 0, 0), (.getfield 7, 6, 0, 0), (.bipush 13, 0, 0, 13), (.iaload, 0, 0, 0), (.iconst (-1), 0, 0, (-1))] [r3] (q := 22) (L' := [some (.ref a0), some (.int b1), none]) (st' := [.int (J (-1)), .int (gi v r3 13)]) (v1 := v) (by decide +kernel) rfl ⟨⟨h1, h4⟩, ⟨(Or.inl (kin_alen h5)), (vin_J h5 (by unfold vp_in; decide))⟩, trivial⟩ ?_
    refine sim_eq (o := 24) (tg := 46) (f := 25) (by decide +kernel) rfl rfl (fun _ => ?_) (fun _ => ?_)
    · exact sK_gm_comes_46 S v a0 b1
    · refine sim_seg [(.aload_n 0, 0, 0, 0), (.getfield 7, 6, 0, 0), (.bipush 13, 0, 0, 13), (.iaload, 0, 0, 0), (.aload_n 0, 0, 0, 0), (.getfield 7, 6, 0, 0), (.bipush 9, 0, 0, 9), (.iaload, 0, 0, 0)] [r3, r3] (q := 39) (L' := [some (.ref a0), some (.int b1), none]) (st' := [.int (gi v r3 9), .int (gi v r3 13)]) (v1 := v) (by decide +kernel) rfl ⟨⟨h1, h4⟩, ⟨(Or.inl (kin_alen h5)), (vin_J h5 (by unfold vp_in; decide))⟩, ⟨h1, h4⟩, ⟨(Or.inl (kin_alen h5)), (vin_J h5 (by unfold vp_in; decide))⟩, trivial⟩ ?_
      refine sim_ge (o := 7) (tg := 46) (f := 42) (by decide +kernel) rfl rfl (fun _ => ?_) (fun _ => ?_)
      · refine sim_seg [(.iconst 1, 0, 0, 1), (.goto 4, 0, 0, 0), (.istore_n 2, 0, 0, 0)] [] (q := 48) (L' := [some (.ref a0), some (.int b1), some (.int (J 1))]) (st' := []) (v1 := v) (by decide +kernel) rfl trivial ?_
        refine sim_seg [(.iload_n 2, 0, 0, 0)] [] (q := 49) (L' := [some (.ref a0), some (.int b1), some (.int (J 1))]) (st' := [.int (J 1)]) (v1 := v) (by decide +kernel) rfl trivial ?_
        refine sim_ifF (c := (J 1) = (J 0)) (by decide) (sim_eq0 (o := 13) (tg := 62) (f := 52) (by decide +kernel) rfl rfl (fun _ => sim_none) (fun _ => ?_))
        refine sim_seg [(.aload_n 0, 0, 0, 0), (.getfield 7, 6, 0, 0), (.bipush 13, 0, 0, 13), (.iaload, 0, 0, 0), (.goto 10, 0, 0, 0)] [r3] (q := 69) (L' := [some (.ref a0), some (.int b1), some (.int (J 1))]) (st' := [.int (gi v r3 13)]) (v1 := v) (by decide +kernel) rfl ⟨⟨h1, h4⟩, ⟨(Or.inl (kin_alen h5)), (vin_J h5 (by unfold vp_in; decide))⟩, trivial⟩ ?_
        exact sK_gm_comes_69 S v a0 b1 (J 1) (gi v r3 13)
      · exact sK_gm_comes_46 S v a0 b1
  · refine sim_seg [(.aload_n 0, 0, 0, 0)] [] (q := 9) (L' := [some (.ref a0), some (.int b1), none]) (st' := [.ref a0]) (v1 := v) (by decide +kernel) rfl trivial ?_
    refine sc_pv (pc3 := 12) (cf_V (idx := 79) (ci := 6) [] m_gm_segmentComes (by decide) ⟨by decide, by decide⟩ (List.mem_of_getElem? (i := 1900) (by decide +kernel)) rfl (Nat.le_of_ble_eq_true rfl) h1 (by decide +kernel) (Nat.le_of_ble_eq_true rfl) rfl) (ok_gm_segmentComes a0 S v) rfl (fun w15 => ?_)
    refine sim_seg [(.iconst 1, 0, 0, 1)] [] (q := 13) (L' := [some (.ref a0), some (.int b1), none]) (st' := [.int (J 1)]) (v1 := w15) (by decide +kernel) rfl trivial ?_
    exact sim_iret (by decide +kernel) rfl rfl rfl
def B_gm_goesTo : bd := (⟨"GateCounterModel", "goesTo", "(I)V"⟩, prog_8_method_19_code, 3, none, [], 6, 4)
theorem m_gm_goesTo : mV B_gm_goesTo 6 1 := ⟨⟨⟨by decide +kernel, Or.inl rfl⟩, rfl, (List.mem_of_getElem? (i := 1891) (by decide +kernel)), by decide +kernel, (List.mem_of_getElem? (i := 104) (by decide +kernel)), ⟨by decide, by decide⟩, by decide⟩, rfl, (by unfold nar; decide +kernel), (List.mem_of_getElem? (i := 1890) (by decide +kernel)), rfl, (List.mem_of_getElem? (i := 60) (by decide +kernel))⟩
noncomputable def Y_gm_goesTo_6 (N : Nat)  (i6 : vl → Nat → Int32 → Int32 → Option vl) (S : shp) (v : vl) (p0 : Nat) (p1 : Int32) (p2 : Int32) : Option vl :=
  (if p2 = (J 0) then grd (kin S p0 = some (0, 6)) <| (gr S p0 0).bind fun r5 => grd (kin S r5 = some (1, 199)) <| lt (si v r5 0 p1) fun w8 => some (w8) else grd (kin S p0 = some (0, 6)) <| (F_gm_comes p0 p1 S v).bind fun (x10, w11) => i6 w11 p0 p1 x10)
noncomputable def K_gm_goesTo_6 (N : Nat)  (n : Nat) (S : shp) : vl → Nat → Int32 → Int32 → Option vl :=
  Nat.rec (motive := fun _ => vl → Nat → Int32 → Int32 → Option vl) (fun _ _ _ _ => none) (fun _ i => Y_gm_goesTo_6 N  i S) n
theorem sY_gm_goesTo_6 (N : Nat)  (i6 : vl → Nat → Int32 → Int32 → Option vl) (S : shp)  (j6 : ∀ (v : vl) (p0 : Nat) (p1 : Int32) (p2 : Int32), SimK B_gm_goesTo 6 [some (.ref p0), some (.int p1), some (.int p2)] [] S v (i6 v p0 p1 p2) (ρpv S)) (v : vl) (p0 : Nat) (p1 : Int32) (p2 : Int32) : SimK B_gm_goesTo 6 [some (.ref p0), some (.int p1), some (.int p2)] [] S v (Y_gm_goesTo_6 N  i6 S v p0 p1 p2) (ρpv S) := by
  unfold Y_gm_goesTo_6
  refine sim_seg [(.iload_n 2, 0, 0, 0)] [] (q := 7) (L' := [some (.ref p0), some (.int p1), some (.int p2)]) (st' := [.int p2]) (v1 := v) (by decide +kernel) rfl trivial ?_
  refine sim_eq0 (o := 12) (tg := 19) (f := 10) (by decide +kernel) rfl rfl (fun _ => ?_) (fun _ => ?_)
  · refine sim_grd fun h4 => ?_
    refine sim_bind fun r5 h6 => ?_
    refine sim_grd fun h7 => ?_
    refine sim_seg [(.aload_n 0, 0, 0, 0), (.getfield 7, 6, 0, 0), (.iconst 0, 0, 0, 0), (.iload_n 1, 0, 0, 0), (.iastore, 0, 0, 0)] [r5] (q := 26) (L' := [some (.ref p0), some (.int p1), some (.int p2)]) (st' := []) (v1 := (si v r5 0 p1)) (by decide +kernel) rfl ⟨⟨h4, h6⟩, ⟨(kin_alen h7), (vin_J h7 (by unfold vp_in; decide))⟩, trivial⟩ ?_
    refine sim_lt (x := (si v r5 0 p1)) ?_
    generalize (si v r5 0 p1) = w8
    exact sim_vret (by decide +kernel) rfl rfl
  · refine sim_seg [(.aload_n 0, 0, 0, 0), (.iload_n 1, 0, 0, 0)] [] (q := 12) (L' := [some (.ref p0), some (.int p1), some (.int p2)]) (st' := [.int p1, .ref p0]) (v1 := v) (by decide +kernel) rfl trivial ?_
    refine sim_grd fun h9 => ?_
    refine sc_pi (pc3 := 15) (cf_V (idx := 89) (ci := 6) [.int p1] m_gm_comes (by decide) ⟨by decide, by decide⟩ (List.mem_of_getElem? (i := 1892) (by decide +kernel)) rfl (Nat.le_of_ble_eq_true rfl) h9 (by decide +kernel) (Nat.le_of_ble_eq_true rfl) rfl) (ok_gm_comes p0 p1 S v) rfl (fun x10 w11 => ?_)
    refine sim_seg [(.istore_n 2, 0, 0, 0)] [] (q := 16) (L' := [some (.ref p0), some (.int p1), some (.int x10)]) (st' := []) (v1 := w11) (by decide +kernel) rfl trivial ?_
    refine sim_seg [(.goto (-10), 0, 0, 0)] [] (q := 6) (L' := [some (.ref p0), some (.int p1), some (.int x10)]) (st' := []) (v1 := w11) (by decide +kernel) rfl trivial ?_
    exact j6 w11 p0 p1 x10
theorem sR_gm_goesTo_6 (N : Nat)  (S : shp)  (n : Nat) : ∀ (v : vl) (p0 : Nat) (p1 : Int32) (p2 : Int32), SimK B_gm_goesTo 6 [some (.ref p0), some (.int p1), some (.int p2)] [] S v (K_gm_goesTo_6 N  n S v p0 p1 p2) (ρpv S) := by
  induction n with
  | zero => intro v p0 p1 p2; exact sim_none
  | succ k ih => intro v p0 p1 p2; exact sY_gm_goesTo_6 N   _ S  ih v p0 p1 p2
theorem sK_gm_goesTo_6 (N : Nat)  (n : Nat) (S : shp) (v : vl) (p0 : Nat) (p1 : Int32) (p2 : Int32) : SimK B_gm_goesTo 6 [some (.ref p0), some (.int p1), some (.int p2)] [] S v (K_gm_goesTo_6 N  n S v p0 p1 p2) (ρpv S) := sR_gm_goesTo_6 N   S  n  v p0 p1 p2
noncomputable def F_gm_goesTo (N : Nat) (a0 : Nat) (b1 : Int32) (S : shp) (v : vl) : Option vl :=
  grd (kin S a0 = some (0, 6)) <| (F_gm_comes a0 b1 S v).bind fun (x2, w3) => K_gm_goesTo_6 N  N S w3 a0 b1 x2
theorem ok_gm_goesTo (N : Nat) (a0 : Nat) (b1 : Int32) (S : shp) (v : vl) : SimK B_gm_goesTo 0 (entB (bN B_gm_goesTo) [.ref a0, .int b1]) [] S v (F_gm_goesTo N a0 b1 S v) (ρpv S) := by
  show SimK B_gm_goesTo 0 [some (.ref a0), some (.int b1), none] [] S v (F_gm_goesTo N a0 b1 S v) _
  unfold F_gm_goesTo
  refine sim_seg [(.aload_n 0, 0, 0, 0), (.iload_n 1, 0, 0, 0)] [] (q := 2) (L' := [some (.ref a0), some (.int b1), none]) (st' := [.int b1, .ref a0]) (v1 := v) (by decide +kernel) rfl trivial ?_
  refine sim_grd fun h1 => ?_
  refine sc_pi (pc3 := 5) (cf_V (idx := 89) (ci := 6) [.int b1] m_gm_comes (by decide) ⟨by decide, by decide⟩ (List.mem_of_getElem? (i := 1892) (by decide +kernel)) rfl (Nat.le_of_ble_eq_true rfl) h1 (by decide +kernel) (Nat.le_of_ble_eq_true rfl) rfl) (ok_gm_comes a0 b1 S v) rfl (fun x2 w3 => ?_)
  refine sim_seg [(.istore_n 2, 0, 0, 0)] [] (q := 6) (L' := [some (.ref a0), some (.int b1), some (.int x2)]) (st' := []) (v1 := w3) (by decide +kernel) rfl trivial ?_
  exact sK_gm_goesTo_6 N N S w3 a0 b1 x2
def B_gm_thinks : bd := (⟨"GateCounterModel", "thinks", "()V"⟩, prog_8_method_10_code, 1, none, [], 6, 1)
theorem m_gm_thinks : mV B_gm_thinks 6 0 := ⟨⟨⟨by decide +kernel, Or.inl rfl⟩, rfl, (List.mem_of_getElem? (i := 1887) (by decide +kernel)), by decide +kernel, (List.mem_of_getElem? (i := 104) (by decide +kernel)), ⟨by decide, by decide⟩, by decide⟩, rfl, (by unfold nar; decide +kernel), (List.mem_of_getElem? (i := 1886) (by decide +kernel)), rfl, (List.mem_of_getElem? (i := 59) (by decide +kernel))⟩
noncomputable def F_gm_thinks (N : Nat) (a0 : Nat) (S : shp) (v : vl) : Option vl :=
  grd (kin S a0 = some (0, 6)) <| (gr S a0 0).bind fun r2 => (gr S a0 2).bind fun r4 => (F_gm_copies N r2 (J 0) r4 (J 0) (J 199) S v).bind fun w6 => some (w6)
theorem ok_gm_thinks (N : Nat) (a0 : Nat) (S : shp) (v : vl) : SimK B_gm_thinks 0 (entB (bN B_gm_thinks) [.ref a0]) [] S v (F_gm_thinks N a0 S v) (ρpv S) := by
  show SimK B_gm_thinks 0 [some (.ref a0)] [] S v (F_gm_thinks N a0 S v) _
  unfold F_gm_thinks
  refine sim_grd fun h1 => ?_
  refine sim_bind fun r2 h3 => ?_
  refine sim_bind fun r4 h5 => ?_
  refine sim_seg [(.aload_n 0, 0, 0, 0), (.getfield 7, 6, 0, 0), (.iconst 0, 0, 0, 0), (.aload_n 0, 0, 0, 0), (.getfield 16, 6, 2, 0), (.iconst 0, 0, 0, 0), (.sipush 199, 0, 0, 199)] [r2, r4] (q := 13) (L' := [some (.ref a0)]) (st' := [.int (J 199), .int (J 0), .ref r4, .int (J 0), .ref r2]) (v1 := v) (by decide +kernel) rfl ⟨⟨h1, h3⟩, ⟨h1, h5⟩, trivial⟩ ?_
  refine sc_pv (pc3 := 16) (cf_S (idx := 48) [.ref r2, .int (J 0), .ref r4, .int (J 0), .int (J 199)] m_gm_copies ⟨by decide, by decide⟩ (List.mem_of_getElem? (i := 1719) (by decide +kernel)) rfl (Nat.le_of_ble_eq_true rfl) (by decide +kernel) (Nat.le_of_ble_eq_true rfl) rfl) (ok_gm_copies N r2 (J 0) r4 (J 0) (J 199) S v) rfl (fun w6 => ?_)
  exact sim_vret (by decide +kernel) rfl rfl
def B_gm_moreIn : bd := (⟨"GateCounterModel", "moreIn", "(II)I"⟩, prog_8_method_71_code, 4, (some .int), [], 6, 5)
theorem m_gm_moreIn : mV B_gm_moreIn 6 2 := ⟨⟨⟨by decide +kernel, Or.inl rfl⟩, rfl, (List.mem_of_getElem? (i := 1883) (by decide +kernel)), by decide +kernel, (List.mem_of_getElem? (i := 104) (by decide +kernel)), ⟨by decide, by decide⟩, by decide⟩, rfl, (by unfold nar; decide +kernel), (List.mem_of_getElem? (i := 1882) (by decide +kernel)), rfl, (List.mem_of_getElem? (i := 58) (by decide +kernel))⟩
noncomputable def F_gm_moreIn (N : Nat) (a0 : Nat) (b1 : Int32) (b2 : Int32) (S : shp) (v : vl) : Option (Int32 × vl) :=
  grd (kin S a0 = some (0, 6)) <| (F_gm_thinks N a0 S v).bind fun w2 => (gr S a0 0).bind fun r3 => grd (kin S r3 = some (1, 199)) <| grd (vp_in b1 (alen S r3)) <| lt (gi w2 r3 (Int32.toNatClampNeg b1)) fun x7 => (F_gm_goesTo N a0 ((gi w2 r3 0) + b2) S w2).bind fun w8 => (F_gm_back N a0 ((gi w8 r3 (Int32.toNatClampNeg b1)) - x7) S w8).bind fun (x9, w10) => some ((x9, w10))
theorem ok_gm_moreIn (N : Nat) (a0 : Nat) (b1 : Int32) (b2 : Int32) (S : shp) (v : vl) : SimK B_gm_moreIn 0 (entB (bN B_gm_moreIn) [.ref a0, .int b1, .int b2]) [] S v (F_gm_moreIn N a0 b1 b2 S v) (ρpi S) := by
  show SimK B_gm_moreIn 0 [some (.ref a0), some (.int b1), some (.int b2), none] [] S v (F_gm_moreIn N a0 b1 b2 S v) _
  unfold F_gm_moreIn
  refine sim_seg [(.aload_n 0, 0, 0, 0)] [] (q := 1) (L' := [some (.ref a0), some (.int b1), some (.int b2), none]) (st' := [.ref a0]) (v1 := v) (by decide +kernel) rfl trivial ?_
  refine sim_grd fun h1 => ?_
  refine sc_pv (pc3 := 4) (cf_V (idx := 295) (ci := 6) [] m_gm_thinks (by decide) ⟨by decide, by decide⟩ (List.mem_of_getElem? (i := 1884) (by decide +kernel)) rfl (Nat.le_of_ble_eq_true rfl) h1 (by decide +kernel) (Nat.le_of_ble_eq_true rfl) rfl) (ok_gm_thinks N a0 S v) rfl (fun w2 => ?_)
  refine sim_bind fun r3 h4 => ?_
  refine sim_grd fun h5 => ?_
  refine sim_grd fun h6 => ?_
  refine sim_seg [(.aload_n 0, 0, 0, 0), (.getfield 7, 6, 0, 0), (.iload_n 1, 0, 0, 0), (.iaload, 0, 0, 0), (.istore_n 3, 0, 0, 0)] [r3] (q := 11) (L' := [some (.ref a0), some (.int b1), some (.int b2), some (.int (gi w2 r3 (Int32.toNatClampNeg b1)))]) (st' := []) (v1 := w2) (by decide +kernel) rfl ⟨⟨h1, h4⟩, ⟨(Or.inl (kin_alen h5)), h6⟩, trivial⟩ ?_
  refine sim_nm (gi w2 r3 (Int32.toNatClampNeg b1)) (fun x7 => [some (.ref a0), some (.int b1), some (.int b2), some (.int x7)]) (fun x7 => []) (fun x7 => ?_) rfl rfl
  refine sim_seg [(.aload_n 0, 0, 0, 0), (.aload_n 0, 0, 0, 0), (.getfield 7, 6, 0, 0), (.iconst 0, 0, 0, 0), (.iaload, 0, 0, 0), (.iload_n 2, 0, 0, 0), (.iadd, 0, 0, 0)] [r3] (q := 20) (L' := [some (.ref a0), some (.int b1), some (.int b2), some (.int x7)]) (st' := [.int ((gi w2 r3 0) + b2), .ref a0]) (v1 := w2) (by decide +kernel) rfl ⟨⟨h1, h4⟩, ⟨(Or.inl (kin_alen h5)), (vin_J h5 (by unfold vp_in; decide))⟩, trivial⟩ ?_
  refine sc_pv (pc3 := 23) (cf_V (idx := 298) (ci := 6) [.int ((gi w2 r3 0) + b2)] m_gm_goesTo (by decide) ⟨by decide, by decide⟩ (List.mem_of_getElem? (i := 1888) (by decide +kernel)) rfl (Nat.le_of_ble_eq_true rfl) h1 (by decide +kernel) (Nat.le_of_ble_eq_true rfl) rfl) (ok_gm_goesTo N a0 ((gi w2 r3 0) + b2) S w2) rfl (fun w8 => ?_)
  refine sim_seg [(.aload_n 0, 0, 0, 0), (.aload_n 0, 0, 0, 0), (.getfield 7, 6, 0, 0), (.iload_n 1, 0, 0, 0), (.iaload, 0, 0, 0), (.iload_n 3, 0, 0, 0), (.isub, 0, 0, 0)] [r3] (q := 32) (L' := [some (.ref a0), some (.int b1), some (.int b2), some (.int x7)]) (st' := [.int ((gi w8 r3 (Int32.toNatClampNeg b1)) - x7), .ref a0]) (v1 := w8) (by decide +kernel) rfl ⟨⟨h1, h4⟩, ⟨(Or.inl (kin_alen h5)), h6⟩, trivial⟩ ?_
  refine sc_pi (pc3 := 35) (cf_V (idx := 301) (ci := 6) [.int ((gi w8 r3 (Int32.toNatClampNeg b1)) - x7)] m_gm_back (by decide) ⟨by decide, by decide⟩ (List.mem_of_getElem? (i := 1919) (by decide +kernel)) rfl (Nat.le_of_ble_eq_true rfl) h1 (by decide +kernel) (Nat.le_of_ble_eq_true rfl) rfl) (ok_gm_back N a0 ((gi w8 r3 (Int32.toNatClampNeg b1)) - x7) S w8) rfl (fun x9 w10 => ?_)
  exact sim_iret (by decide +kernel) rfl rfl rfl
def B_gm_noTicks : bd := (⟨"GateCounterModel", "noTicks", "(I)Z"⟩, prog_8_method_72_code, 2, (some .boolean), [], 6, 1)
theorem m_gm_noTicks : mV B_gm_noTicks 6 1 := ⟨⟨⟨by decide +kernel, Or.inl rfl⟩, rfl, (List.mem_of_getElem? (i := 1878) (by decide +kernel)), by decide +kernel, (List.mem_of_getElem? (i := 104) (by decide +kernel)), ⟨by decide, by decide⟩, by decide⟩, rfl, (by unfold nar; decide +kernel), (List.mem_of_getElem? (i := 1877) (by decide +kernel)), rfl, (List.mem_of_getElem? (i := 57) (by decide +kernel))⟩
noncomputable def F_gm_noTicks (a0 : Nat) (b1 : Int32) (S : shp) (v : vl) : Option (Int32 × vl) :=
  (F_gm_inRange b1 (J 0) (J 100000) S v).bind fun x1 => (if x1 = (J 0) then grd (kin S a0 = some (0, 6)) <| (F_gm_fails a0 (J 1) (J 1) S v).bind fun (x3, w4) => grd (narrow .boolean (.int x3) = .int x3) <| some ((x3, w4)) else grd (kin S a0 = some (0, 6)) <| (F_gm_fails a0 (J 0) (J 1) S v).bind fun (x7, w8) => grd (narrow .boolean (.int x7) = .int x7) <| some ((x7, w8)))
theorem ok_gm_noTicks (a0 : Nat) (b1 : Int32) (S : shp) (v : vl) : SimK B_gm_noTicks 0 (entB (bN B_gm_noTicks) [.ref a0, .int b1]) [] S v (F_gm_noTicks a0 b1 S v) (ρpi S) := by
  show SimK B_gm_noTicks 0 [some (.ref a0), some (.int b1)] [] S v (F_gm_noTicks a0 b1 S v) _
  unfold F_gm_noTicks
  refine sim_seg [(.aload_n 0, 0, 0, 0), (.iload_n 1, 0, 0, 0), (.iconst 0, 0, 0, 0), (.ldc_w 304, 0, 0, 100000)] [] (q := 6) (L' := [some (.ref a0), some (.int b1)]) (st' := [.int (J 100000), .int (J 0), .int b1, .ref a0]) (v1 := v) (by decide +kernel) rfl trivial ?_
  refine sc_ri (pc3 := 9) (cf_S (idx := 41) [.int b1, .int (J 0), .int (J 100000)] m_gm_inRange ⟨by decide, by decide⟩ (List.mem_of_getElem? (i := 1712) (by decide +kernel)) rfl (Nat.le_of_ble_eq_true rfl) (by decide +kernel) (Nat.le_of_ble_eq_true rfl) rfl) (ok_gm_inRange b1 (J 0) (J 100000) S v) rfl (fun x1 => ?_)
  refine sim_ne0 (o := 7) (tg := 16) (f := 12) (by decide +kernel) rfl rfl (fun _ => ?_) (fun _ => ?_)
  · refine sim_seg [(.iconst 1, 0, 0, 1), (.goto 4, 0, 0, 0), (.iconst 1, 0, 0, 1)] [] (q := 18) (L' := [some (.ref a0), some (.int b1)]) (st' := [.int (J 1), .int (J 1), .ref a0]) (v1 := v) (by decide +kernel) rfl trivial ?_
    refine sim_grd fun h2 => ?_
    refine sc_pi (pc3 := 21) (cf_V (idx := 279) (ci := 6) [.int (J 1), .int (J 1)] m_gm_fails (by decide) ⟨by decide, by decide⟩ (List.mem_of_getElem? (i := 1827) (by decide +kernel)) rfl (Nat.le_of_ble_eq_true rfl) h2 (by decide +kernel) (Nat.le_of_ble_eq_true rfl) rfl) (ok_gm_fails a0 (J 1) (J 1) S v) rfl (fun x3 w4 => ?_)
    refine sim_grd fun h5 => ?_
    exact sim_iret (by decide +kernel) rfl h5 rfl
  · refine sim_seg [(.iconst 0, 0, 0, 0), (.iconst 1, 0, 0, 1)] [] (q := 18) (L' := [some (.ref a0), some (.int b1)]) (st' := [.int (J 1), .int (J 0), .ref a0]) (v1 := v) (by decide +kernel) rfl trivial ?_
    refine sim_grd fun h6 => ?_
    refine sc_pi (pc3 := 21) (cf_V (idx := 279) (ci := 6) [.int (J 0), .int (J 1)] m_gm_fails (by decide) ⟨by decide, by decide⟩ (List.mem_of_getElem? (i := 1827) (by decide +kernel)) rfl (Nat.le_of_ble_eq_true rfl) h6 (by decide +kernel) (Nat.le_of_ble_eq_true rfl) rfl) (ok_gm_fails a0 (J 0) (J 1) S v) rfl (fun x7 w8 => ?_)
    refine sim_grd fun h9 => ?_
    exact sim_iret (by decide +kernel) rfl h9 rfl
def B_gm_edgesIn : bd := (⟨"GateCounterModel", "edgesIn", "(I)I"⟩, prog_8_method_73_code, 2, (some .int), [], 6, 6)
theorem m_gm_edgesIn : mV B_gm_edgesIn 6 1 := ⟨⟨⟨by decide +kernel, Or.inl rfl⟩, rfl, (List.mem_of_getElem? (i := 1874) (by decide +kernel)), by decide +kernel, (List.mem_of_getElem? (i := 104) (by decide +kernel)), ⟨by decide, by decide⟩, by decide⟩, rfl, (by unfold nar; decide +kernel), (List.mem_of_getElem? (i := 1872) (by decide +kernel)), rfl, (List.mem_of_getElem? (i := 1873) (by decide +kernel))⟩
noncomputable def F_gm_edgesIn (N : Nat) (a0 : Nat) (b1 : Int32) (S : shp) (v : vl) : Option (Int32 × vl) :=
  grd (kin S a0 = some (0, 6)) <| lt (si v a0 10 (J 0)) fun w2 => (F_gm_noTicks a0 b1 S w2).bind fun (x3, w4) => (if x3 = (J 0) then (F_gm_moreIn N a0 (J 14) b1 S w4).bind fun (x5, w6) => some ((x5, w6)) else some (((J 0), w4)))
theorem ok_gm_edgesIn (N : Nat) (a0 : Nat) (b1 : Int32) (S : shp) (v : vl) : SimK B_gm_edgesIn 0 (entB (bN B_gm_edgesIn) [.ref a0, .int b1]) [] S v (F_gm_edgesIn N a0 b1 S v) (ρpi S) := by
  show SimK B_gm_edgesIn 0 [some (.ref a0), some (.int b1)] [] S v (F_gm_edgesIn N a0 b1 S v) _
  unfold F_gm_edgesIn
  refine sim_grd fun h1 => ?_
  refine sim_seg [(.aload_n 0, 0, 0, 0), (.iconst 0, 0, 0, 0), (.putfield 38, 6, 10, 0), (.aload_n 0, 0, 0, 0), (.iload_n 1, 0, 0, 0)] [] (q := 7) (L' := [some (.ref a0), some (.int b1)]) (st' := [.int b1, .ref a0]) (v1 := (si v a0 10 (J 0))) (by decide +kernel) rfl ⟨h1, trivial⟩ ?_
  refine sim_lt (x := (si v a0 10 (J 0))) ?_
  generalize (si v a0 10 (J 0)) = w2
  refine sc_pi (pc3 := 10) (cf_V (idx := 305) (ci := 6) [.int b1] m_gm_noTicks (by decide) ⟨by decide, by decide⟩ (List.mem_of_getElem? (i := 1875) (by decide +kernel)) rfl (Nat.le_of_ble_eq_true rfl) h1 (by decide +kernel) (Nat.le_of_ble_eq_true rfl) rfl) (ok_gm_noTicks a0 b1 S w2) rfl (fun x3 w4 => ?_)
  refine sim_eq0 (o := 7) (tg := 17) (f := 13) (by decide +kernel) rfl rfl (fun _ => ?_) (fun _ => ?_)
  · refine sim_seg [(.aload_n 0, 0, 0, 0), (.bipush 14, 0, 0, 14), (.iload_n 1, 0, 0, 0)] [] (q := 21) (L' := [some (.ref a0), some (.int b1)]) (st' := [.int b1, .int (J 14), .ref a0]) (v1 := w4) (by decide +kernel) rfl trivial ?_
    refine sc_pi (pc3 := 24) (cf_V (idx := 308) (ci := 6) [.int (J 14), .int b1] m_gm_moreIn (by decide) ⟨by decide, by decide⟩ (List.mem_of_getElem? (i := 1880) (by decide +kernel)) rfl (Nat.le_of_ble_eq_true rfl) h1 (by decide +kernel) (Nat.le_of_ble_eq_true rfl) rfl) (ok_gm_moreIn N a0 (J 14) b1 S w4) rfl (fun x5 w6 => ?_)
    exact sim_iret (by decide +kernel) rfl rfl rfl
  · refine sim_seg [(.iconst 0, 0, 0, 0), (.goto 10, 0, 0, 0)] [] (q := 24) (L' := [some (.ref a0), some (.int b1)]) (st' := [.int (J 0)]) (v1 := w4) (by decide +kernel) rfl trivial ?_
    exact sim_iret (by decide +kernel) rfl rfl rfl
def B_gm_outputsIn : bd := (⟨"GateCounterModel", "outputsIn", "(I)I"⟩, prog_8_method_74_code, 2, (some .int), [], 6, 6)
theorem m_gm_outputsIn : mV B_gm_outputsIn 6 1 := ⟨⟨⟨by decide +kernel, Or.inl rfl⟩, rfl, (List.mem_of_getElem? (i := 1926) (by decide +kernel)), by decide +kernel, (List.mem_of_getElem? (i := 104) (by decide +kernel)), ⟨by decide, by decide⟩, by decide⟩, rfl, (by unfold nar; decide +kernel), (List.mem_of_getElem? (i := 1924) (by decide +kernel)), rfl, (List.mem_of_getElem? (i := 1925) (by decide +kernel))⟩
noncomputable def F_gm_outputsIn (N : Nat) (a0 : Nat) (b1 : Int32) (S : shp) (v : vl) : Option (Int32 × vl) :=
  grd (kin S a0 = some (0, 6)) <| lt (si v a0 10 (J 0)) fun w2 => (F_gm_noTicks a0 b1 S w2).bind fun (x3, w4) => (if x3 = (J 0) then (F_gm_moreIn N a0 (J 16) b1 S w4).bind fun (x5, w6) => some ((x5, w6)) else some (((J 0), w4)))
theorem ok_gm_outputsIn (N : Nat) (a0 : Nat) (b1 : Int32) (S : shp) (v : vl) : SimK B_gm_outputsIn 0 (entB (bN B_gm_outputsIn) [.ref a0, .int b1]) [] S v (F_gm_outputsIn N a0 b1 S v) (ρpi S) := by
  show SimK B_gm_outputsIn 0 [some (.ref a0), some (.int b1)] [] S v (F_gm_outputsIn N a0 b1 S v) _
  unfold F_gm_outputsIn
  refine sim_grd fun h1 => ?_
  refine sim_seg [(.aload_n 0, 0, 0, 0), (.iconst 0, 0, 0, 0), (.putfield 38, 6, 10, 0), (.aload_n 0, 0, 0, 0), (.iload_n 1, 0, 0, 0)] [] (q := 7) (L' := [some (.ref a0), some (.int b1)]) (st' := [.int b1, .ref a0]) (v1 := (si v a0 10 (J 0))) (by decide +kernel) rfl ⟨h1, trivial⟩ ?_
  refine sim_lt (x := (si v a0 10 (J 0))) ?_
  generalize (si v a0 10 (J 0)) = w2
  refine sc_pi (pc3 := 10) (cf_V (idx := 305) (ci := 6) [.int b1] m_gm_noTicks (by decide) ⟨by decide, by decide⟩ (List.mem_of_getElem? (i := 1875) (by decide +kernel)) rfl (Nat.le_of_ble_eq_true rfl) h1 (by decide +kernel) (Nat.le_of_ble_eq_true rfl) rfl) (ok_gm_noTicks a0 b1 S w2) rfl (fun x3 w4 => ?_)
  refine sim_eq0 (o := 7) (tg := 17) (f := 13) (by decide +kernel) rfl rfl (fun _ => ?_) (fun _ => ?_)
  · refine sim_seg [(.aload_n 0, 0, 0, 0), (.bipush 16, 0, 0, 16), (.iload_n 1, 0, 0, 0)] [] (q := 21) (L' := [some (.ref a0), some (.int b1)]) (st' := [.int b1, .int (J 16), .ref a0]) (v1 := w4) (by decide +kernel) rfl trivial ?_
    refine sc_pi (pc3 := 24) (cf_V (idx := 308) (ci := 6) [.int (J 16), .int b1] m_gm_moreIn (by decide) ⟨by decide, by decide⟩ (List.mem_of_getElem? (i := 1880) (by decide +kernel)) rfl (Nat.le_of_ble_eq_true rfl) h1 (by decide +kernel) (Nat.le_of_ble_eq_true rfl) rfl) (ok_gm_moreIn N a0 (J 16) b1 S w4) rfl (fun x5 w6 => ?_)
    exact sim_iret (by decide +kernel) rfl rfl rfl
  · refine sim_seg [(.iconst 0, 0, 0, 0), (.goto 10, 0, 0, 0)] [] (q := 24) (L' := [some (.ref a0), some (.int b1)]) (st' := [.int (J 0)]) (v1 := w4) (by decide +kernel) rfl trivial ?_
    exact sim_iret (by decide +kernel) rfl rfl rfl
def B_gm_clocksIn : bd := (⟨"GateCounterModel", "clocksIn", "(I)I"⟩, prog_8_method_75_code, 2, (some .int), [], 6, 6)
theorem m_gm_clocksIn : mV B_gm_clocksIn 6 1 := ⟨⟨⟨by decide +kernel, Or.inl rfl⟩, rfl, (List.mem_of_getElem? (i := 1930) (by decide +kernel)), by decide +kernel, (List.mem_of_getElem? (i := 104) (by decide +kernel)), ⟨by decide, by decide⟩, by decide⟩, rfl, (by unfold nar; decide +kernel), (List.mem_of_getElem? (i := 1928) (by decide +kernel)), rfl, (List.mem_of_getElem? (i := 1929) (by decide +kernel))⟩
noncomputable def F_gm_clocksIn (N : Nat) (a0 : Nat) (b1 : Int32) (S : shp) (v : vl) : Option (Int32 × vl) :=
  grd (kin S a0 = some (0, 6)) <| lt (si v a0 10 (J 0)) fun w2 => (F_gm_noTicks a0 b1 S w2).bind fun (x3, w4) => (if x3 = (J 0) then (F_gm_moreIn N a0 (J 11) b1 S w4).bind fun (x5, w6) => some ((x5, w6)) else some (((J 0), w4)))
theorem ok_gm_clocksIn (N : Nat) (a0 : Nat) (b1 : Int32) (S : shp) (v : vl) : SimK B_gm_clocksIn 0 (entB (bN B_gm_clocksIn) [.ref a0, .int b1]) [] S v (F_gm_clocksIn N a0 b1 S v) (ρpi S) := by
  show SimK B_gm_clocksIn 0 [some (.ref a0), some (.int b1)] [] S v (F_gm_clocksIn N a0 b1 S v) _
  unfold F_gm_clocksIn
  refine sim_grd fun h1 => ?_
  refine sim_seg [(.aload_n 0, 0, 0, 0), (.iconst 0, 0, 0, 0), (.putfield 38, 6, 10, 0), (.aload_n 0, 0, 0, 0), (.iload_n 1, 0, 0, 0)] [] (q := 7) (L' := [some (.ref a0), some (.int b1)]) (st' := [.int b1, .ref a0]) (v1 := (si v a0 10 (J 0))) (by decide +kernel) rfl ⟨h1, trivial⟩ ?_
  refine sim_lt (x := (si v a0 10 (J 0))) ?_
  generalize (si v a0 10 (J 0)) = w2
  refine sc_pi (pc3 := 10) (cf_V (idx := 305) (ci := 6) [.int b1] m_gm_noTicks (by decide) ⟨by decide, by decide⟩ (List.mem_of_getElem? (i := 1875) (by decide +kernel)) rfl (Nat.le_of_ble_eq_true rfl) h1 (by decide +kernel) (Nat.le_of_ble_eq_true rfl) rfl) (ok_gm_noTicks a0 b1 S w2) rfl (fun x3 w4 => ?_)
  refine sim_eq0 (o := 7) (tg := 17) (f := 13) (by decide +kernel) rfl rfl (fun _ => ?_) (fun _ => ?_)
  · refine sim_seg [(.aload_n 0, 0, 0, 0), (.bipush 11, 0, 0, 11), (.iload_n 1, 0, 0, 0)] [] (q := 21) (L' := [some (.ref a0), some (.int b1)]) (st' := [.int b1, .int (J 11), .ref a0]) (v1 := w4) (by decide +kernel) rfl trivial ?_
    refine sc_pi (pc3 := 24) (cf_V (idx := 308) (ci := 6) [.int (J 11), .int b1] m_gm_moreIn (by decide) ⟨by decide, by decide⟩ (List.mem_of_getElem? (i := 1880) (by decide +kernel)) rfl (Nat.le_of_ble_eq_true rfl) h1 (by decide +kernel) (Nat.le_of_ble_eq_true rfl) rfl) (ok_gm_moreIn N a0 (J 11) b1 S w4) rfl (fun x5 w6 => ?_)
    exact sim_iret (by decide +kernel) rfl rfl rfl
  · refine sim_seg [(.iconst 0, 0, 0, 0), (.goto 10, 0, 0, 0)] [] (q := 24) (L' := [some (.ref a0), some (.int b1)]) (st' := [.int (J 0)]) (v1 := w4) (by decide +kernel) rfl trivial ?_
    exact sim_iret (by decide +kernel) rfl rfl rfl
def B_gm_driftIn : bd := (⟨"GateCounterModel", "driftIn", "(I)I"⟩, prog_8_method_76_code, 2, (some .int), [], 6, 6)
theorem m_gm_driftIn : mV B_gm_driftIn 6 1 := ⟨⟨⟨by decide +kernel, Or.inl rfl⟩, rfl, (List.mem_of_getElem? (i := 1934) (by decide +kernel)), by decide +kernel, (List.mem_of_getElem? (i := 104) (by decide +kernel)), ⟨by decide, by decide⟩, by decide⟩, rfl, (by unfold nar; decide +kernel), (List.mem_of_getElem? (i := 1932) (by decide +kernel)), rfl, (List.mem_of_getElem? (i := 1933) (by decide +kernel))⟩
noncomputable def F_gm_driftIn (N : Nat) (a0 : Nat) (b1 : Int32) (S : shp) (v : vl) : Option (Int32 × vl) :=
  grd (kin S a0 = some (0, 6)) <| lt (si v a0 10 (J 0)) fun w2 => (F_gm_noTicks a0 b1 S w2).bind fun (x3, w4) => (if x3 = (J 0) then (gr S a0 0).bind fun r5 => grd (kin S r5 = some (1, 199)) <| (F_gm_moreIn N a0 (J 2) b1 S w4).bind fun (x8, w9) => some ((((gi w4 r5 2) + x8), w9)) else some (((J 0), w4)))
theorem ok_gm_driftIn (N : Nat) (a0 : Nat) (b1 : Int32) (S : shp) (v : vl) : SimK B_gm_driftIn 0 (entB (bN B_gm_driftIn) [.ref a0, .int b1]) [] S v (F_gm_driftIn N a0 b1 S v) (ρpi S) := by
  show SimK B_gm_driftIn 0 [some (.ref a0), some (.int b1)] [] S v (F_gm_driftIn N a0 b1 S v) _
  unfold F_gm_driftIn
  refine sim_grd fun h1 => ?_
  refine sim_seg [(.aload_n 0, 0, 0, 0), (.iconst 0, 0, 0, 0), (.putfield 38, 6, 10, 0), (.aload_n 0, 0, 0, 0), (.iload_n 1, 0, 0, 0)] [] (q := 7) (L' := [some (.ref a0), some (.int b1)]) (st' := [.int b1, .ref a0]) (v1 := (si v a0 10 (J 0))) (by decide +kernel) rfl ⟨h1, trivial⟩ ?_
  refine sim_lt (x := (si v a0 10 (J 0))) ?_
  generalize (si v a0 10 (J 0)) = w2
  refine sc_pi (pc3 := 10) (cf_V (idx := 305) (ci := 6) [.int b1] m_gm_noTicks (by decide) ⟨by decide, by decide⟩ (List.mem_of_getElem? (i := 1875) (by decide +kernel)) rfl (Nat.le_of_ble_eq_true rfl) h1 (by decide +kernel) (Nat.le_of_ble_eq_true rfl) rfl) (ok_gm_noTicks a0 b1 S w2) rfl (fun x3 w4 => ?_)
  refine sim_eq0 (o := 7) (tg := 17) (f := 13) (by decide +kernel) rfl rfl (fun _ => ?_) (fun _ => ?_)
  · refine sim_bind fun r5 h6 => ?_
    refine sim_grd fun h7 => ?_
    refine sim_seg [(.aload_n 0, 0, 0, 0), (.getfield 7, 6, 0, 0), (.iconst 2, 0, 0, 2), (.iaload, 0, 0, 0), (.aload_n 0, 0, 0, 0), (.iconst 2, 0, 0, 2), (.iload_n 1, 0, 0, 0)] [r5] (q := 26) (L' := [some (.ref a0), some (.int b1)]) (st' := [.int b1, .int (J 2), .ref a0, .int (gi w4 r5 2)]) (v1 := w4) (by decide +kernel) rfl ⟨⟨h1, h6⟩, ⟨(Or.inl (kin_alen h7)), (vin_J h7 (by unfold vp_in; decide))⟩, trivial⟩ ?_
    refine sc_pi (pc3 := 29) (cf_V (idx := 308) (ci := 6) [.int (J 2), .int b1] m_gm_moreIn (by decide) ⟨by decide, by decide⟩ (List.mem_of_getElem? (i := 1880) (by decide +kernel)) rfl (Nat.le_of_ble_eq_true rfl) h1 (by decide +kernel) (Nat.le_of_ble_eq_true rfl) rfl) (ok_gm_moreIn N a0 (J 2) b1 S w4) rfl (fun x8 w9 => ?_)
    refine sim_seg [(.iadd, 0, 0, 0)] [] (q := 30) (L' := [some (.ref a0), some (.int b1)]) (st' := [.int ((gi w4 r5 2) + x8)]) (v1 := w9) (by decide +kernel) rfl trivial ?_
    exact sim_iret (by decide +kernel) rfl rfl rfl
  · refine sim_seg [(.iconst 0, 0, 0, 0), (.goto 16, 0, 0, 0)] [] (q := 30) (L' := [some (.ref a0), some (.int b1)]) (st' := [.int (J 0)]) (v1 := w4) (by decide +kernel) rfl trivial ?_
    exact sim_iret (by decide +kernel) rfl rfl rfl
def B_gm_waitsFor : bd := (⟨"GateCounterModel", "waitsFor", "(I)Z"⟩, prog_8_method_20_code, 3, (some .boolean), [], 6, 4)
theorem m_gm_waitsFor : mV B_gm_waitsFor 6 1 := ⟨⟨⟨by decide +kernel, Or.inl rfl⟩, rfl, (List.mem_of_getElem? (i := 1942) (by decide +kernel)), by decide +kernel, (List.mem_of_getElem? (i := 104) (by decide +kernel)), ⟨by decide, by decide⟩, by decide⟩, rfl, (by unfold nar; decide +kernel), (List.mem_of_getElem? (i := 1941) (by decide +kernel)), rfl, (List.mem_of_getElem? (i := 68) (by decide +kernel))⟩
noncomputable def Y_gm_waitsFor_7 (N : Nat)  (i7 : vl → Nat → Int32 → Int32 → Option (Int32 × vl)) (S : shp) (v : vl) (p0 : Nat) (p1 : Int32) (p2 : Int32) : Option (Int32 × vl) :=
  (if p2 = p1 then (if p2 = p1 then some (((J 1), v)) else some (((J 0), v))) else (if p2 = (J 0) then (if p2 = p1 then some (((J 1), v)) else some (((J 0), v))) else grd (kin S p0 = some (0, 6)) <| (F_gm_comes p0 (J 2000000) S v).bind fun (x5, w6) => i7 w6 p0 p1 x5))
noncomputable def K_gm_waitsFor_7 (N : Nat)  (n : Nat) (S : shp) : vl → Nat → Int32 → Int32 → Option (Int32 × vl) :=
  Nat.rec (motive := fun _ => vl → Nat → Int32 → Int32 → Option (Int32 × vl)) (fun _ _ _ _ => none) (fun _ i => Y_gm_waitsFor_7 N  i S) n
theorem sY_gm_waitsFor_7 (N : Nat)  (i7 : vl → Nat → Int32 → Int32 → Option (Int32 × vl)) (S : shp)  (j7 : ∀ (v : vl) (p0 : Nat) (p1 : Int32) (p2 : Int32), SimK B_gm_waitsFor 7 [some (.ref p0), some (.int p1), some (.int p2)] [] S v (i7 v p0 p1 p2) (ρpi S)) (v : vl) (p0 : Nat) (p1 : Int32) (p2 : Int32) : SimK B_gm_waitsFor 7 [some (.ref p0), some (.int p1), some (.int p2)] [] S v (Y_gm_waitsFor_7 N  i7 S v p0 p1 p2) (ρpi S) := by
  unfold Y_gm_waitsFor_7
  refine sim_seg [(.iload_n 2, 0, 0, 0), (.iload_n 1, 0, 0, 0)] [] (q := 9) (L' := [some (.ref p0), some (.int p1), some (.int p2)]) (st' := [.int p1, .int p2]) (v1 := v) (by decide +kernel) rfl trivial ?_
  refine sim_eq (o := 17) (tg := 26) (f := 12) (by decide +kernel) rfl rfl (fun _ => ?_) (fun _ => ?_)
  · refine sim_seg [(.iload_n 2, 0, 0, 0), (.iload_n 1, 0, 0, 0)] [] (q := 28) (L' := [some (.ref p0), some (.int p1), some (.int p2)]) (st' := [.int p1, .int p2]) (v1 := v) (by decide +kernel) rfl trivial ?_
    refine sim_ne (o := 7) (tg := 35) (f := 31) (by decide +kernel) rfl rfl (fun _ => ?_) (fun _ => ?_)
    · refine sim_seg [(.iconst 1, 0, 0, 1), (.goto 4, 0, 0, 0)] [] (q := 36) (L' := [some (.ref p0), some (.int p1), some (.int p2)]) (st' := [.int (J 1)]) (v1 := v) (by decide +kernel) rfl trivial ?_
      exact sim_iret (by decide +kernel) rfl (by decide) rfl
    · refine sim_seg [(.iconst 0, 0, 0, 0)] [] (q := 36) (L' := [some (.ref p0), some (.int p1), some (.int p2)]) (st' := [.int (J 0)]) (v1 := v) (by decide +kernel) rfl trivial ?_
      exact sim_iret (by decide +kernel) rfl (by decide) rfl
  · refine sim_seg [(.iload_n 2, 0, 0, 0)] [] (q := 13) (L' := [some (.ref p0), some (.int p1), some (.int p2)]) (st' := [.int p2]) (v1 := v) (by decide +kernel) rfl trivial ?_
    refine sim_eq0 (o := 13) (tg := 26) (f := 16) (by decide +kernel) rfl rfl (fun _ => ?_) (fun _ => ?_)
    · refine sim_seg [(.iload_n 2, 0, 0, 0), (.iload_n 1, 0, 0, 0)] [] (q := 28) (L' := [some (.ref p0), some (.int p1), some (.int p2)]) (st' := [.int p1, .int p2]) (v1 := v) (by decide +kernel) rfl trivial ?_
      refine sim_ne (o := 7) (tg := 35) (f := 31) (by decide +kernel) rfl rfl (fun _ => ?_) (fun _ => ?_)
      · refine sim_seg [(.iconst 1, 0, 0, 1), (.goto 4, 0, 0, 0)] [] (q := 36) (L' := [some (.ref p0), some (.int p1), some (.int p2)]) (st' := [.int (J 1)]) (v1 := v) (by decide +kernel) rfl trivial ?_
        exact sim_iret (by decide +kernel) rfl (by decide) rfl
      · refine sim_seg [(.iconst 0, 0, 0, 0)] [] (q := 36) (L' := [some (.ref p0), some (.int p1), some (.int p2)]) (st' := [.int (J 0)]) (v1 := v) (by decide +kernel) rfl trivial ?_
        exact sim_iret (by decide +kernel) rfl (by decide) rfl
    · refine sim_seg [(.aload_n 0, 0, 0, 0), (.ldc 92, 0, 0, 2000000)] [] (q := 19) (L' := [some (.ref p0), some (.int p1), some (.int p2)]) (st' := [.int (J 2000000), .ref p0]) (v1 := v) (by decide +kernel) rfl trivial ?_
      refine sim_grd fun h4 => ?_
      refine sc_pi (pc3 := 22) (cf_V (idx := 89) (ci := 6) [.int (J 2000000)] m_gm_comes (by decide) ⟨by decide, by decide⟩ (List.mem_of_getElem? (i := 1892) (by decide +kernel)) rfl (Nat.le_of_ble_eq_true rfl) h4 (by decide +kernel) (Nat.le_of_ble_eq_true rfl) rfl) (ok_gm_comes p0 (J 2000000) S v) rfl (fun x5 w6 => ?_)
      refine sim_seg [(.istore_n 2, 0, 0, 0)] [] (q := 23) (L' := [some (.ref p0), some (.int p1), some (.int x5)]) (st' := []) (v1 := w6) (by decide +kernel) rfl trivial ?_
      refine sim_seg [(.goto (-16), 0, 0, 0)] [] (q := 7) (L' := [some (.ref p0), some (.int p1), some (.int x5)]) (st' := []) (v1 := w6) (by decide +kernel) rfl trivial ?_
      exact j7 w6 p0 p1 x5
theorem sR_gm_waitsFor_7 (N : Nat)  (S : shp)  (n : Nat) : ∀ (v : vl) (p0 : Nat) (p1 : Int32) (p2 : Int32), SimK B_gm_waitsFor 7 [some (.ref p0), some (.int p1), some (.int p2)] [] S v (K_gm_waitsFor_7 N  n S v p0 p1 p2) (ρpi S) := by
  induction n with
  | zero => intro v p0 p1 p2; exact sim_none
  | succ k ih => intro v p0 p1 p2; exact sY_gm_waitsFor_7 N   _ S  ih v p0 p1 p2
theorem sK_gm_waitsFor_7 (N : Nat)  (n : Nat) (S : shp) (v : vl) (p0 : Nat) (p1 : Int32) (p2 : Int32) : SimK B_gm_waitsFor 7 [some (.ref p0), some (.int p1), some (.int p2)] [] S v (K_gm_waitsFor_7 N  n S v p0 p1 p2) (ρpi S) := sR_gm_waitsFor_7 N   S  n  v p0 p1 p2
noncomputable def F_gm_waitsFor (N : Nat) (a0 : Nat) (b1 : Int32) (S : shp) (v : vl) : Option (Int32 × vl) :=
  grd (kin S a0 = some (0, 6)) <| (F_gm_comes a0 (J 2000000) S v).bind fun (x2, w3) => K_gm_waitsFor_7 N  N S w3 a0 b1 x2
theorem ok_gm_waitsFor (N : Nat) (a0 : Nat) (b1 : Int32) (S : shp) (v : vl) : SimK B_gm_waitsFor 0 (entB (bN B_gm_waitsFor) [.ref a0, .int b1]) [] S v (F_gm_waitsFor N a0 b1 S v) (ρpi S) := by
  show SimK B_gm_waitsFor 0 [some (.ref a0), some (.int b1), none] [] S v (F_gm_waitsFor N a0 b1 S v) _
  unfold F_gm_waitsFor
  refine sim_seg [(.aload_n 0, 0, 0, 0), (.ldc 92, 0, 0, 2000000)] [] (q := 3) (L' := [some (.ref a0), some (.int b1), none]) (st' := [.int (J 2000000), .ref a0]) (v1 := v) (by decide +kernel) rfl trivial ?_
  refine sim_grd fun h1 => ?_
  refine sc_pi (pc3 := 6) (cf_V (idx := 89) (ci := 6) [.int (J 2000000)] m_gm_comes (by decide) ⟨by decide, by decide⟩ (List.mem_of_getElem? (i := 1892) (by decide +kernel)) rfl (Nat.le_of_ble_eq_true rfl) h1 (by decide +kernel) (Nat.le_of_ble_eq_true rfl) rfl) (ok_gm_comes a0 (J 2000000) S v) rfl (fun x2 w3 => ?_)
  refine sim_seg [(.istore_n 2, 0, 0, 0)] [] (q := 7) (L' := [some (.ref a0), some (.int b1), some (.int x2)]) (st' := []) (v1 := w3) (by decide +kernel) rfl trivial ?_
  exact sK_gm_waitsFor_7 N N S w3 a0 b1 x2
def B_gm_nextOutput : bd := (⟨"GateCounterModel", "nextOutput", "()I"⟩, prog_8_method_77_code, 1, (some .int), [], 6, 5)
theorem m_gm_nextOutput : mV B_gm_nextOutput 6 0 := ⟨⟨⟨by decide +kernel, Or.inl rfl⟩, rfl, (List.mem_of_getElem? (i := 1938) (by decide +kernel)), by decide +kernel, (List.mem_of_getElem? (i := 104) (by decide +kernel)), ⟨by decide, by decide⟩, by decide⟩, rfl, (by unfold nar; decide +kernel), (List.mem_of_getElem? (i := 1936) (by decide +kernel)), rfl, (List.mem_of_getElem? (i := 1937) (by decide +kernel))⟩
noncomputable def F_gm_nextOutput (N : Nat) (a0 : Nat) (S : shp) (v : vl) : Option (Int32 × vl) :=
  grd (kin S a0 = some (0, 6)) <| lt (si v a0 10 (J 0)) fun w2 => (F_gm_thinks N a0 S w2).bind fun w3 => (F_gm_waitsFor N a0 (J 4) S w3).bind fun (x4, w5) => (if x4 = (J 0) then (F_gm_back N a0 (J (-1)) S w5).bind fun (x6, w7) => some ((x6, w7)) else (gr S a0 0).bind fun r8 => grd (kin S r8 = some (1, 199)) <| (F_gm_back N a0 (gi w5 r8 0) S w5).bind fun (x11, w12) => some ((x11, w12)))
theorem ok_gm_nextOutput (N : Nat) (a0 : Nat) (S : shp) (v : vl) : SimK B_gm_nextOutput 0 (entB (bN B_gm_nextOutput) [.ref a0]) [] S v (F_gm_nextOutput N a0 S v) (ρpi S) := by
  show SimK B_gm_nextOutput 0 [some (.ref a0)] [] S v (F_gm_nextOutput N a0 S v) _
  unfold F_gm_nextOutput
  refine sim_grd fun h1 => ?_
  refine sim_seg [(.aload_n 0, 0, 0, 0), (.iconst 0, 0, 0, 0), (.putfield 38, 6, 10, 0), (.aload_n 0, 0, 0, 0)] [] (q := 6) (L' := [some (.ref a0)]) (st' := [.ref a0]) (v1 := (si v a0 10 (J 0))) (by decide +kernel) rfl ⟨h1, trivial⟩ ?_
  refine sim_lt (x := (si v a0 10 (J 0))) ?_
  generalize (si v a0 10 (J 0)) = w2
  refine sc_pv (pc3 := 9) (cf_V (idx := 295) (ci := 6) [] m_gm_thinks (by decide) ⟨by decide, by decide⟩ (List.mem_of_getElem? (i := 1884) (by decide +kernel)) rfl (Nat.le_of_ble_eq_true rfl) h1 (by decide +kernel) (Nat.le_of_ble_eq_true rfl) rfl) (ok_gm_thinks N a0 S w2) rfl (fun w3 => ?_)
  refine sim_seg [(.aload_n 0, 0, 0, 0), (.aload_n 0, 0, 0, 0), (.iconst 4, 0, 0, 4)] [] (q := 12) (L' := [some (.ref a0)]) (st' := [.int (J 4), .ref a0, .ref a0]) (v1 := w3) (by decide +kernel) rfl trivial ?_
  refine sc_pi (pc3 := 15) (cf_V (idx := 108) (ci := 6) [.int (J 4)] m_gm_waitsFor (by decide) ⟨by decide, by decide⟩ (List.mem_of_getElem? (i := 1939) (by decide +kernel)) rfl (Nat.le_of_ble_eq_true rfl) h1 (by decide +kernel) (Nat.le_of_ble_eq_true rfl) rfl) (ok_gm_waitsFor N a0 (J 4) S w3) rfl (fun x4 w5 => ?_)
  refine sim_eq0 (o := 12) (tg := 27) (f := 18) (by decide +kernel) rfl rfl (fun _ => ?_) (fun _ => ?_)
  · refine sim_seg [(.iconst (-1), 0, 0, (-1))] [] (q := 28) (L' := [some (.ref a0)]) (st' := [.int (J (-1)), .ref a0]) (v1 := w5) (by decide +kernel) rfl trivial ?_
    refine sc_pi (pc3 := 31) (cf_V (idx := 301) (ci := 6) [.int (J (-1))] m_gm_back (by decide) ⟨by decide, by decide⟩ (List.mem_of_getElem? (i := 1919) (by decide +kernel)) rfl (Nat.le_of_ble_eq_true rfl) h1 (by decide +kernel) (Nat.le_of_ble_eq_true rfl) rfl) (ok_gm_back N a0 (J (-1)) S w5) rfl (fun x6 w7 => ?_)
    exact sim_iret (by decide +kernel) rfl rfl rfl
  · refine sim_bind fun r8 h9 => ?_
    refine sim_grd fun h10 => ?_
    refine sim_seg [(.aload_n 0, 0, 0, 0), (.getfield 7, 6, 0, 0), (.iconst 0, 0, 0, 0), (.iaload, 0, 0, 0), (.goto 4, 0, 0, 0)] [r8] (q := 28) (L' := [some (.ref a0)]) (st' := [.int (gi w5 r8 0), .ref a0]) (v1 := w5) (by decide +kernel) rfl ⟨⟨h1, h9⟩, ⟨(Or.inl (kin_alen h10)), (vin_J h10 (by unfold vp_in; decide))⟩, trivial⟩ ?_
    refine sc_pi (pc3 := 31) (cf_V (idx := 301) (ci := 6) [.int (gi w5 r8 0)] m_gm_back (by decide) ⟨by decide, by decide⟩ (List.mem_of_getElem? (i := 1919) (by decide +kernel)) rfl (Nat.le_of_ble_eq_true rfl) h1 (by decide +kernel) (Nat.le_of_ble_eq_true rfl) rfl) (ok_gm_back N a0 (gi w5 r8 0) S w5) rfl (fun x11 w12 => ?_)
    exact sim_iret (by decide +kernel) rfl rfl rfl
def B_gm_changesIn : bd := (⟨"GateCounterModel", "changesIn", "()I"⟩, prog_8_method_78_code, 1, (some .int), [], 6, 1)
theorem m_gm_changesIn : mV B_gm_changesIn 6 0 := ⟨⟨⟨by decide +kernel, Or.inl rfl⟩, rfl, (List.mem_of_getElem? (i := 1947) (by decide +kernel)), by decide +kernel, (List.mem_of_getElem? (i := 104) (by decide +kernel)), ⟨by decide, by decide⟩, by decide⟩, rfl, (by unfold nar; decide +kernel), (List.mem_of_getElem? (i := 1945) (by decide +kernel)), rfl, (List.mem_of_getElem? (i := 1946) (by decide +kernel))⟩
noncomputable def F_gm_changesIn (a0 : Nat) (S : shp) (v : vl) : Option (Int32 × vl) :=
  grd (kin S a0 = some (0, 6)) <| lt (si v a0 10 (J 0)) fun w2 => (gr S a0 0).bind fun r3 => grd (kin S r3 = some (1, 199)) <| (if (gi w2 r3 20) = (gi w2 r3 19) then some (((J (-1)), w2)) else (F_gm_segmentTime a0 (gi w2 r3 20) S w2).bind fun x6 => some (((x6 - (gi w2 r3 0)), w2)))
theorem ok_gm_changesIn (a0 : Nat) (S : shp) (v : vl) : SimK B_gm_changesIn 0 (entB (bN B_gm_changesIn) [.ref a0]) [] S v (F_gm_changesIn a0 S v) (ρpi S) := by
  show SimK B_gm_changesIn 0 [some (.ref a0)] [] S v (F_gm_changesIn a0 S v) _
  unfold F_gm_changesIn
  refine sim_grd fun h1 => ?_
  refine sim_seg [(.aload_n 0, 0, 0, 0), (.iconst 0, 0, 0, 0), (.putfield 38, 6, 10, 0), (.aload_n 0, 0, 0, 0)] [] (q := 6) (L' := [some (.ref a0)]) (st' := [.ref a0]) (v1 := (si v a0 10 (J 0))) (by decide +kernel) rfl ⟨h1, trivial⟩ ?_
  refine sim_lt (x := (si v a0 10 (J 0))) ?_
  generalize (si v a0 10 (J 0)) = w2
  refine sim_bind fun r3 h4 => ?_
  refine sim_grd fun h5 => ?_
  refine sim_seg [(.getfield 7, 6, 0, 0), (.bipush 20, 0, 0, 20), (.iaload, 0, 0, 0), (.aload_n 0, 0, 0, 0), (.getfield 7, 6, 0, 0), (.bipush 19, 0, 0, 19), (.iaload, 0, 0, 0)] [r3, r3] (q := 19) (L' := [some (.ref a0)]) (st' := [.int (gi w2 r3 19), .int (gi w2 r3 20)]) (v1 := w2) (by decide +kernel) rfl ⟨⟨h1, h4⟩, ⟨(Or.inl (kin_alen h5)), (vin_J h5 (by unfold vp_in; decide))⟩, ⟨h1, h4⟩, ⟨(Or.inl (kin_alen h5)), (vin_J h5 (by unfold vp_in; decide))⟩, trivial⟩ ?_
  refine sim_ne (o := 7) (tg := 26) (f := 22) (by decide +kernel) rfl rfl (fun _ => ?_) (fun _ => ?_)
  · refine sim_seg [(.iconst (-1), 0, 0, (-1)), (.goto 21, 0, 0, 0)] [] (q := 44) (L' := [some (.ref a0)]) (st' := [.int (J (-1))]) (v1 := w2) (by decide +kernel) rfl trivial ?_
    exact sim_iret (by decide +kernel) rfl rfl rfl
  · refine sim_seg [(.aload_n 0, 0, 0, 0), (.aload_n 0, 0, 0, 0), (.getfield 7, 6, 0, 0), (.bipush 20, 0, 0, 20), (.iaload, 0, 0, 0)] [r3] (q := 34) (L' := [some (.ref a0)]) (st' := [.int (gi w2 r3 20), .ref a0]) (v1 := w2) (by decide +kernel) rfl ⟨⟨h1, h4⟩, ⟨(Or.inl (kin_alen h5)), (vin_J h5 (by unfold vp_in; decide))⟩, trivial⟩ ?_
    refine sc_ri (pc3 := 37) (cf_V (idx := 56) (ci := 6) [.int (gi w2 r3 20)] m_gm_segmentTime (by decide) ⟨by decide, by decide⟩ (List.mem_of_getElem? (i := 1803) (by decide +kernel)) rfl (Nat.le_of_ble_eq_true rfl) h1 (by decide +kernel) (Nat.le_of_ble_eq_true rfl) rfl) (ok_gm_segmentTime a0 (gi w2 r3 20) S w2) rfl (fun x6 => ?_)
    refine sim_seg [(.aload_n 0, 0, 0, 0), (.getfield 7, 6, 0, 0), (.iconst 0, 0, 0, 0), (.iaload, 0, 0, 0), (.isub, 0, 0, 0)] [r3] (q := 44) (L' := [some (.ref a0)]) (st' := [.int (x6 - (gi w2 r3 0))]) (v1 := w2) (by decide +kernel) rfl ⟨⟨h1, h4⟩, ⟨(Or.inl (kin_alen h5)), (vin_J h5 (by unfold vp_in; decide))⟩, trivial⟩ ?_
    exact sim_iret (by decide +kernel) rfl rfl rfl
def B_gm_noNumber : bd := (⟨"GateCounterModel", "noNumber", "(I)Z"⟩, prog_8_method_79_code, 2, (some .boolean), [], 6, 1)
theorem m_gm_noNumber : mV B_gm_noNumber 6 1 := ⟨⟨⟨by decide +kernel, Or.inl rfl⟩, rfl, (List.mem_of_getElem? (i := 1955) (by decide +kernel)), by decide +kernel, (List.mem_of_getElem? (i := 104) (by decide +kernel)), ⟨by decide, by decide⟩, by decide⟩, rfl, (by unfold nar; decide +kernel), (List.mem_of_getElem? (i := 1954) (by decide +kernel)), rfl, (List.mem_of_getElem? (i := 69) (by decide +kernel))⟩
noncomputable def F_gm_noNumber (a0 : Nat) (b1 : Int32) (S : shp) (v : vl) : Option (Int32 × vl) :=
  (F_gm_inRange b1 (J 1) (J 1000) S v).bind fun x1 => (if x1 = (J 0) then grd (kin S a0 = some (0, 6)) <| (F_gm_fails a0 (J 1) (J 1) S v).bind fun (x3, w4) => grd (narrow .boolean (.int x3) = .int x3) <| some ((x3, w4)) else grd (kin S a0 = some (0, 6)) <| (F_gm_fails a0 (J 0) (J 1) S v).bind fun (x7, w8) => grd (narrow .boolean (.int x7) = .int x7) <| some ((x7, w8)))
theorem ok_gm_noNumber (a0 : Nat) (b1 : Int32) (S : shp) (v : vl) : SimK B_gm_noNumber 0 (entB (bN B_gm_noNumber) [.ref a0, .int b1]) [] S v (F_gm_noNumber a0 b1 S v) (ρpi S) := by
  show SimK B_gm_noNumber 0 [some (.ref a0), some (.int b1)] [] S v (F_gm_noNumber a0 b1 S v) _
  unfold F_gm_noNumber
  refine sim_seg [(.aload_n 0, 0, 0, 0), (.iload_n 1, 0, 0, 0), (.iconst 1, 0, 0, 1), (.sipush 1000, 0, 0, 1000)] [] (q := 6) (L' := [some (.ref a0), some (.int b1)]) (st' := [.int (J 1000), .int (J 1), .int b1, .ref a0]) (v1 := v) (by decide +kernel) rfl trivial ?_
  refine sc_ri (pc3 := 9) (cf_S (idx := 41) [.int b1, .int (J 1), .int (J 1000)] m_gm_inRange ⟨by decide, by decide⟩ (List.mem_of_getElem? (i := 1712) (by decide +kernel)) rfl (Nat.le_of_ble_eq_true rfl) (by decide +kernel) (Nat.le_of_ble_eq_true rfl) rfl) (ok_gm_inRange b1 (J 1) (J 1000) S v) rfl (fun x1 => ?_)
  refine sim_ne0 (o := 7) (tg := 16) (f := 12) (by decide +kernel) rfl rfl (fun _ => ?_) (fun _ => ?_)
  · refine sim_seg [(.iconst 1, 0, 0, 1), (.goto 4, 0, 0, 0), (.iconst 1, 0, 0, 1)] [] (q := 18) (L' := [some (.ref a0), some (.int b1)]) (st' := [.int (J 1), .int (J 1), .ref a0]) (v1 := v) (by decide +kernel) rfl trivial ?_
    refine sim_grd fun h2 => ?_
    refine sc_pi (pc3 := 21) (cf_V (idx := 279) (ci := 6) [.int (J 1), .int (J 1)] m_gm_fails (by decide) ⟨by decide, by decide⟩ (List.mem_of_getElem? (i := 1827) (by decide +kernel)) rfl (Nat.le_of_ble_eq_true rfl) h2 (by decide +kernel) (Nat.le_of_ble_eq_true rfl) rfl) (ok_gm_fails a0 (J 1) (J 1) S v) rfl (fun x3 w4 => ?_)
    refine sim_grd fun h5 => ?_
    exact sim_iret (by decide +kernel) rfl h5 rfl
  · refine sim_seg [(.iconst 0, 0, 0, 0), (.iconst 1, 0, 0, 1)] [] (q := 18) (L' := [some (.ref a0), some (.int b1)]) (st' := [.int (J 1), .int (J 0), .ref a0]) (v1 := v) (by decide +kernel) rfl trivial ?_
    refine sim_grd fun h6 => ?_
    refine sc_pi (pc3 := 21) (cf_V (idx := 279) (ci := 6) [.int (J 0), .int (J 1)] m_gm_fails (by decide) ⟨by decide, by decide⟩ (List.mem_of_getElem? (i := 1827) (by decide +kernel)) rfl (Nat.le_of_ble_eq_true rfl) h6 (by decide +kernel) (Nat.le_of_ble_eq_true rfl) rfl) (ok_gm_fails a0 (J 0) (J 1) S v) rfl (fun x7 w8 => ?_)
    refine sim_grd fun h9 => ?_
    exact sim_iret (by decide +kernel) rfl h9 rfl
def B_gm_timeOfEdge : bd := (⟨"GateCounterModel", "timeOfEdge", "(I)I"⟩, prog_8_method_80_code, 4, (some .int), [], 6, 4)
theorem m_gm_timeOfEdge : mV B_gm_timeOfEdge 6 1 := ⟨⟨⟨by decide +kernel, Or.inl rfl⟩, rfl, (List.mem_of_getElem? (i := 1951) (by decide +kernel)), by decide +kernel, (List.mem_of_getElem? (i := 104) (by decide +kernel)), ⟨by decide, by decide⟩, by decide⟩, rfl, (by unfold nar; decide +kernel), (List.mem_of_getElem? (i := 1949) (by decide +kernel)), rfl, (List.mem_of_getElem? (i := 1950) (by decide +kernel))⟩
noncomputable def K_gm_timeOfEdge_56 (N : Nat)  (S : shp) (v : vl) (p0 : Nat) (p2 : Int32) : Option (Int32 × vl) :=
  grd (kin S p0 = some (0, 6)) <| (gr S p0 0).bind fun r14 => grd (kin S r14 = some (1, 199)) <| (if (gi v r14 14) = p2 then (F_gm_back N p0 (gi v r14 0) S v).bind fun (x17, w18) => some ((x17, w18)) else (F_gm_back N p0 (J (-1)) S v).bind fun (x19, w20) => some ((x19, w20)))
theorem sK_gm_timeOfEdge_56 (N : Nat)   (S : shp) (v : vl) (p0 : Nat) (p2 : Int32) : SimK B_gm_timeOfEdge 56 [some (.ref p0), none, some (.int p2), none] [] S v (K_gm_timeOfEdge_56 N  S v p0 p2) (ρpi S) := by
  unfold K_gm_timeOfEdge_56
  refine sim_grd fun h13 => ?_
  refine sim_bind fun r14 h15 => ?_
  refine sim_grd fun h16 => ?_
  refine sim_seg [(.aload_n 0, 0, 0, 0), (.aload_n 0, 0, 0, 0), (.getfield 7, 6, 0, 0), (.bipush 14, 0, 0, 14), (.iaload, 0, 0, 0), (.iload_n 2, 0, 0, 0)] [r14] (q := 65) (L' := [some (.ref p0), none, some (.int p2), none]) (st' := [.int p2, .int (gi v r14 14), .ref p0]) (v1 := v) (by decide +kernel) rfl ⟨⟨h13, h15⟩, ⟨(Or.inl (kin_alen h16)), (vin_J h16 (by unfold vp_in; decide))⟩, trivial⟩ ?_
  refine sim_ne (o := 12) (tg := 77) (f := 68) (by decide +kernel) rfl rfl (fun _ => ?_) (fun _ => ?_)
  · refine sim_seg [(.aload_n 0, 0, 0, 0), (.getfield 7, 6, 0, 0), (.iconst 0, 0, 0, 0), (.iaload, 0, 0, 0), (.goto 4, 0, 0, 0)] [r14] (q := 78) (L' := [some (.ref p0), none, some (.int p2), none]) (st' := [.int (gi v r14 0), .ref p0]) (v1 := v) (by decide +kernel) rfl ⟨⟨h13, h15⟩, ⟨(Or.inl (kin_alen h16)), (vin_J h16 (by unfold vp_in; decide))⟩, trivial⟩ ?_
    refine sc_pi (pc3 := 81) (cf_V (idx := 301) (ci := 6) [.int (gi v r14 0)] m_gm_back (by decide) ⟨by decide, by decide⟩ (List.mem_of_getElem? (i := 1919) (by decide +kernel)) rfl (Nat.le_of_ble_eq_true rfl) h13 (by decide +kernel) (Nat.le_of_ble_eq_true rfl) rfl) (ok_gm_back N p0 (gi v r14 0) S v) rfl (fun x17 w18 => ?_)
    exact sim_iret (by decide +kernel) rfl rfl rfl
  · refine sim_seg [(.iconst (-1), 0, 0, (-1))] [] (q := 78) (L' := [some (.ref p0), none, some (.int p2), none]) (st' := [.int (J (-1)), .ref p0]) (v1 := v) (by decide +kernel) rfl trivial ?_
    refine sc_pi (pc3 := 81) (cf_V (idx := 301) (ci := 6) [.int (J (-1))] m_gm_back (by decide) ⟨by decide, by decide⟩ (List.mem_of_getElem? (i := 1919) (by decide +kernel)) rfl (Nat.le_of_ble_eq_true rfl) h13 (by decide +kernel) (Nat.le_of_ble_eq_true rfl) rfl) (ok_gm_back N p0 (J (-1)) S v) rfl (fun x19 w20 => ?_)
    exact sim_iret (by decide +kernel) rfl rfl rfl
noncomputable def Y_gm_timeOfEdge_31 (N : Nat)  (i31 : vl → Nat → Int32 → Int32 → Option (Int32 × vl)) (S : shp) (v : vl) (p0 : Nat) (p2 : Int32) (p3 : Int32) : Option (Int32 × vl) :=
  grd (kin S p0 = some (0, 6)) <| (gr S p0 0).bind fun r10 => grd (kin S r10 = some (1, 199)) <| (if (gi v r10 14) < p2 then (if p3 = (J 0) then K_gm_timeOfEdge_56 N  S v p0 p2 else (F_gm_comes p0 (J 2000000) S v).bind fun (x21, w22) => i31 w22 p0 p2 x21) else K_gm_timeOfEdge_56 N  S v p0 p2)
noncomputable def K_gm_timeOfEdge_31 (N : Nat)  (n : Nat) (S : shp) : vl → Nat → Int32 → Int32 → Option (Int32 × vl) :=
  Nat.rec (motive := fun _ => vl → Nat → Int32 → Int32 → Option (Int32 × vl)) (fun _ _ _ _ => none) (fun _ i => Y_gm_timeOfEdge_31 N  i S) n
theorem sY_gm_timeOfEdge_31 (N : Nat)  (i31 : vl → Nat → Int32 → Int32 → Option (Int32 × vl)) (S : shp)  (j31 : ∀ (v : vl) (p0 : Nat) (p2 : Int32) (p3 : Int32), SimK B_gm_timeOfEdge 31 [some (.ref p0), none, some (.int p2), some (.int p3)] [] S v (i31 v p0 p2 p3) (ρpi S)) (v : vl) (p0 : Nat) (p2 : Int32) (p3 : Int32) : SimK B_gm_timeOfEdge 31 [some (.ref p0), none, some (.int p2), some (.int p3)] [] S v (Y_gm_timeOfEdge_31 N  i31 S v p0 p2 p3) (ρpi S) := by
  unfold Y_gm_timeOfEdge_31
  refine sim_grd fun h9 => ?_
  refine sim_bind fun r10 h11 => ?_
  refine sim_grd fun h12 => ?_
  refine sim_seg [(.aload_n 0, 0, 0, 0), (.getfield 7, 6, 0, 0), (.bipush 14, 0, 0, 14), (.iaload, 0, 0, 0), (.iload_n 2, 0, 0, 0)] [r10] (q := 39) (L' := [some (.ref p0), none, some (.int p2), some (.int p3)]) (st' := [.int p2, .int (gi v r10 14)]) (v1 := v) (by decide +kernel) rfl ⟨⟨h9, h11⟩, ⟨(Or.inl (kin_alen h12)), (vin_J h12 (by unfold vp_in; decide))⟩, trivial⟩ ?_
  refine sim_ge (o := 17) (tg := 56) (f := 42) (by decide +kernel) rfl rfl (fun _ => ?_) (fun _ => ?_)
  · refine sim_seg [(.iload_n 3, 0, 0, 0)] [] (q := 43) (L' := [some (.ref p0), none, some (.int p2), some (.int p3)]) (st' := [.int p3]) (v1 := v) (by decide +kernel) rfl trivial ?_
    refine sim_eq0 (o := 13) (tg := 56) (f := 46) (by decide +kernel) rfl rfl (fun _ => ?_) (fun _ => ?_)
    · exact sim_wk (L0 := [some (.ref p0), none, some (.int p2), none]) ⟨rfl, rfl, trivial⟩ (sK_gm_timeOfEdge_56 N S v p0 p2)
    · refine sim_seg [(.aload_n 0, 0, 0, 0), (.ldc 92, 0, 0, 2000000)] [] (q := 49) (L' := [some (.ref p0), none, some (.int p2), some (.int p3)]) (st' := [.int (J 2000000), .ref p0]) (v1 := v) (by decide +kernel) rfl trivial ?_
      refine sc_pi (pc3 := 52) (cf_V (idx := 89) (ci := 6) [.int (J 2000000)] m_gm_comes (by decide) ⟨by decide, by decide⟩ (List.mem_of_getElem? (i := 1892) (by decide +kernel)) rfl (Nat.le_of_ble_eq_true rfl) h9 (by decide +kernel) (Nat.le_of_ble_eq_true rfl) rfl) (ok_gm_comes p0 (J 2000000) S v) rfl (fun x21 w22 => ?_)
      refine sim_seg [(.istore_n 3, 0, 0, 0)] [] (q := 53) (L' := [some (.ref p0), none, some (.int p2), some (.int x21)]) (st' := []) (v1 := w22) (by decide +kernel) rfl trivial ?_
      refine sim_seg [(.goto (-22), 0, 0, 0)] [] (q := 31) (L' := [some (.ref p0), none, some (.int p2), some (.int x21)]) (st' := []) (v1 := w22) (by decide +kernel) rfl trivial ?_
      exact j31 w22 p0 p2 x21
  · exact sim_wk (L0 := [some (.ref p0), none, some (.int p2), none]) ⟨rfl, rfl, trivial⟩ (sK_gm_timeOfEdge_56 N S v p0 p2)
theorem sR_gm_timeOfEdge_31 (N : Nat)  (S : shp)  (n : Nat) : ∀ (v : vl) (p0 : Nat) (p2 : Int32) (p3 : Int32), SimK B_gm_timeOfEdge 31 [some (.ref p0), none, some (.int p2), some (.int p3)] [] S v (K_gm_timeOfEdge_31 N  n S v p0 p2 p3) (ρpi S) := by
  induction n with
  | zero => intro v p0 p2 p3; exact sim_none
  | succ k ih => intro v p0 p2 p3; exact sY_gm_timeOfEdge_31 N   _ S  ih v p0 p2 p3
theorem sK_gm_timeOfEdge_31 (N : Nat)  (n : Nat) (S : shp) (v : vl) (p0 : Nat) (p2 : Int32) (p3 : Int32) : SimK B_gm_timeOfEdge 31 [some (.ref p0), none, some (.int p2), some (.int p3)] [] S v (K_gm_timeOfEdge_31 N  n S v p0 p2 p3) (ρpi S) := sR_gm_timeOfEdge_31 N   S  n  v p0 p2 p3
noncomputable def F_gm_timeOfEdge (N : Nat) (a0 : Nat) (b1 : Int32) (S : shp) (v : vl) : Option (Int32 × vl) :=
  grd (kin S a0 = some (0, 6)) <| lt (si v a0 10 (J 0)) fun w2 => (F_gm_noNumber a0 b1 S w2).bind fun (x3, w4) => (if x3 = (J 0) then (F_gm_thinks N a0 S w4).bind fun w5 => (gr S a0 0).bind fun r6 => grd (kin S r6 = some (1, 199)) <| K_gm_timeOfEdge_31 N  N S w5 a0 ((gi w5 r6 14) + b1) (J 1) else some (((J 0), w4)))
theorem ok_gm_timeOfEdge (N : Nat) (a0 : Nat) (b1 : Int32) (S : shp) (v : vl) : SimK B_gm_timeOfEdge 0 (entB (bN B_gm_timeOfEdge) [.ref a0, .int b1]) [] S v (F_gm_timeOfEdge N a0 b1 S v) (ρpi S) := by
  show SimK B_gm_timeOfEdge 0 [some (.ref a0), some (.int b1), none, none] [] S v (F_gm_timeOfEdge N a0 b1 S v) _
  unfold F_gm_timeOfEdge
  refine sim_grd fun h1 => ?_
  refine sim_seg [(.aload_n 0, 0, 0, 0), (.iconst 0, 0, 0, 0), (.putfield 38, 6, 10, 0), (.aload_n 0, 0, 0, 0), (.iload_n 1, 0, 0, 0)] [] (q := 7) (L' := [some (.ref a0), some (.int b1), none, none]) (st' := [.int b1, .ref a0]) (v1 := (si v a0 10 (J 0))) (by decide +kernel) rfl ⟨h1, trivial⟩ ?_
  refine sim_lt (x := (si v a0 10 (J 0))) ?_
  generalize (si v a0 10 (J 0)) = w2
  refine sc_pi (pc3 := 10) (cf_V (idx := 311) (ci := 6) [.int b1] m_gm_noNumber (by decide) ⟨by decide, by decide⟩ (List.mem_of_getElem? (i := 1952) (by decide +kernel)) rfl (Nat.le_of_ble_eq_true rfl) h1 (by decide +kernel) (Nat.le_of_ble_eq_true rfl) rfl) (ok_gm_noNumber a0 b1 S w2) rfl (fun x3 w4 => ?_)
  refine sim_eq0 (o := 5) (tg := 15) (f := 13) (by decide +kernel) rfl rfl (fun _ => ?_) (fun _ => ?_)
  · refine sim_seg [(.aload_n 0, 0, 0, 0)] [] (q := 16) (L' := [some (.ref a0), some (.int b1), none, none]) (st' := [.ref a0]) (v1 := w4) (by decide +kernel) rfl trivial ?_
    refine sc_pv (pc3 := 19) (cf_V (idx := 295) (ci := 6) [] m_gm_thinks (by decide) ⟨by decide, by decide⟩ (List.mem_of_getElem? (i := 1884) (by decide +kernel)) rfl (Nat.le_of_ble_eq_true rfl) h1 (by decide +kernel) (Nat.le_of_ble_eq_true rfl) rfl) (ok_gm_thinks N a0 S w4) rfl (fun w5 => ?_)
    refine sim_bind fun r6 h7 => ?_
    refine sim_grd fun h8 => ?_
    refine sim_seg [(.aload_n 0, 0, 0, 0), (.getfield 7, 6, 0, 0), (.bipush 14, 0, 0, 14), (.iaload, 0, 0, 0), (.iload_n 1, 0, 0, 0), (.iadd, 0, 0, 0), (.istore_n 2, 0, 0, 0)] [r6] (q := 29) (L' := [some (.ref a0), some (.int b1), some (.int ((gi w5 r6 14) + b1)), none]) (st' := []) (v1 := w5) (by decide +kernel) rfl ⟨⟨h1, h7⟩, ⟨(Or.inl (kin_alen h8)), (vin_J h8 (by unfold vp_in; decide))⟩, trivial⟩ ?_
    refine sim_seg [(.iconst 1, 0, 0, 1), (.istore_n 3, 0, 0, 0)] [] (q := 31) (L' := [some (.ref a0), some (.int b1), some (.int ((gi w5 r6 14) + b1)), some (.int (J 1))]) (st' := []) (v1 := w5) (by decide +kernel) rfl trivial ?_
    exact sim_wk (L0 := [some (.ref a0), none, some (.int ((gi w5 r6 14) + b1)), some (.int (J 1))]) ⟨rfl, rfl, rfl, trivial⟩ (sK_gm_timeOfEdge_31 N N S w5 a0 ((gi w5 r6 14) + b1) (J 1))
  · refine sim_seg [(.iconst 0, 0, 0, 0)] [] (q := 14) (L' := [some (.ref a0), some (.int b1), none, none]) (st' := [.int (J 0)]) (v1 := w4) (by decide +kernel) rfl trivial ?_
    exact sim_iret (by decide +kernel) rfl rfl rfl
def B_gm_timeOfClock : bd := (⟨"GateCounterModel", "timeOfClock", "(I)I"⟩, prog_8_method_81_code, 4, (some .int), [], 6, 4)
theorem m_gm_timeOfClock : mV B_gm_timeOfClock 6 1 := ⟨⟨⟨by decide +kernel, Or.inl rfl⟩, rfl, (List.mem_of_getElem? (i := 1959) (by decide +kernel)), by decide +kernel, (List.mem_of_getElem? (i := 104) (by decide +kernel)), ⟨by decide, by decide⟩, by decide⟩, rfl, (by unfold nar; decide +kernel), (List.mem_of_getElem? (i := 1957) (by decide +kernel)), rfl, (List.mem_of_getElem? (i := 1958) (by decide +kernel))⟩
noncomputable def K_gm_timeOfClock_56 (N : Nat)  (S : shp) (v : vl) (p0 : Nat) (p2 : Int32) : Option (Int32 × vl) :=
  grd (kin S p0 = some (0, 6)) <| (gr S p0 0).bind fun r14 => grd (kin S r14 = some (1, 199)) <| (if (gi v r14 11) = p2 then (F_gm_back N p0 (gi v r14 0) S v).bind fun (x17, w18) => some ((x17, w18)) else (F_gm_back N p0 (J (-1)) S v).bind fun (x19, w20) => some ((x19, w20)))
theorem sK_gm_timeOfClock_56 (N : Nat)   (S : shp) (v : vl) (p0 : Nat) (p2 : Int32) : SimK B_gm_timeOfClock 56 [some (.ref p0), none, some (.int p2), none] [] S v (K_gm_timeOfClock_56 N  S v p0 p2) (ρpi S) := by
  unfold K_gm_timeOfClock_56
  refine sim_grd fun h13 => ?_
  refine sim_bind fun r14 h15 => ?_
  refine sim_grd fun h16 => ?_
  refine sim_seg [(.aload_n 0, 0, 0, 0), (.aload_n 0, 0, 0, 0), (.getfield 7, 6, 0, 0), (.bipush 11, 0, 0, 11), (.iaload, 0, 0, 0), (.iload_n 2, 0, 0, 0)] [r14] (q := 65) (L' := [some (.ref p0), none, some (.int p2), none]) (st' := [.int p2, .int (gi v r14 11), .ref p0]) (v1 := v) (by decide +kernel) rfl ⟨⟨h13, h15⟩, ⟨(Or.inl (kin_alen h16)), (vin_J h16 (by unfold vp_in; decide))⟩, trivial⟩ ?_
  refine sim_ne (o := 12) (tg := 77) (f := 68) (by decide +kernel) rfl rfl (fun _ => ?_) (fun _ => ?_)
  · refine sim_seg [(.aload_n 0, 0, 0, 0), (.getfield 7, 6, 0, 0), (.iconst 0, 0, 0, 0), (.iaload, 0, 0, 0), (.goto 4, 0, 0, 0)] [r14] (q := 78) (L' := [some (.ref p0), none, some (.int p2), none]) (st' := [.int (gi v r14 0), .ref p0]) (v1 := v) (by decide +kernel) rfl ⟨⟨h13, h15⟩, ⟨(Or.inl (kin_alen h16)), (vin_J h16 (by unfold vp_in; decide))⟩, trivial⟩ ?_
    refine sc_pi (pc3 := 81) (cf_V (idx := 301) (ci := 6) [.int (gi v r14 0)] m_gm_back (by decide) ⟨by decide, by decide⟩ (List.mem_of_getElem? (i := 1919) (by decide +kernel)) rfl (Nat.le_of_ble_eq_true rfl) h13 (by decide +kernel) (Nat.le_of_ble_eq_true rfl) rfl) (ok_gm_back N p0 (gi v r14 0) S v) rfl (fun x17 w18 => ?_)
    exact sim_iret (by decide +kernel) rfl rfl rfl
  · refine sim_seg [(.iconst (-1), 0, 0, (-1))] [] (q := 78) (L' := [some (.ref p0), none, some (.int p2), none]) (st' := [.int (J (-1)), .ref p0]) (v1 := v) (by decide +kernel) rfl trivial ?_
    refine sc_pi (pc3 := 81) (cf_V (idx := 301) (ci := 6) [.int (J (-1))] m_gm_back (by decide) ⟨by decide, by decide⟩ (List.mem_of_getElem? (i := 1919) (by decide +kernel)) rfl (Nat.le_of_ble_eq_true rfl) h13 (by decide +kernel) (Nat.le_of_ble_eq_true rfl) rfl) (ok_gm_back N p0 (J (-1)) S v) rfl (fun x19 w20 => ?_)
    exact sim_iret (by decide +kernel) rfl rfl rfl
noncomputable def Y_gm_timeOfClock_31 (N : Nat)  (i31 : vl → Nat → Int32 → Int32 → Option (Int32 × vl)) (S : shp) (v : vl) (p0 : Nat) (p2 : Int32) (p3 : Int32) : Option (Int32 × vl) :=
  grd (kin S p0 = some (0, 6)) <| (gr S p0 0).bind fun r10 => grd (kin S r10 = some (1, 199)) <| (if (gi v r10 11) < p2 then (if p3 = (J 0) then K_gm_timeOfClock_56 N  S v p0 p2 else (F_gm_comes p0 (J 2000000) S v).bind fun (x21, w22) => i31 w22 p0 p2 x21) else K_gm_timeOfClock_56 N  S v p0 p2)
noncomputable def K_gm_timeOfClock_31 (N : Nat)  (n : Nat) (S : shp) : vl → Nat → Int32 → Int32 → Option (Int32 × vl) :=
  Nat.rec (motive := fun _ => vl → Nat → Int32 → Int32 → Option (Int32 × vl)) (fun _ _ _ _ => none) (fun _ i => Y_gm_timeOfClock_31 N  i S) n
theorem sY_gm_timeOfClock_31 (N : Nat)  (i31 : vl → Nat → Int32 → Int32 → Option (Int32 × vl)) (S : shp)  (j31 : ∀ (v : vl) (p0 : Nat) (p2 : Int32) (p3 : Int32), SimK B_gm_timeOfClock 31 [some (.ref p0), none, some (.int p2), some (.int p3)] [] S v (i31 v p0 p2 p3) (ρpi S)) (v : vl) (p0 : Nat) (p2 : Int32) (p3 : Int32) : SimK B_gm_timeOfClock 31 [some (.ref p0), none, some (.int p2), some (.int p3)] [] S v (Y_gm_timeOfClock_31 N  i31 S v p0 p2 p3) (ρpi S) := by
  unfold Y_gm_timeOfClock_31
  refine sim_grd fun h9 => ?_
  refine sim_bind fun r10 h11 => ?_
  refine sim_grd fun h12 => ?_
  refine sim_seg [(.aload_n 0, 0, 0, 0), (.getfield 7, 6, 0, 0), (.bipush 11, 0, 0, 11), (.iaload, 0, 0, 0), (.iload_n 2, 0, 0, 0)] [r10] (q := 39) (L' := [some (.ref p0), none, some (.int p2), some (.int p3)]) (st' := [.int p2, .int (gi v r10 11)]) (v1 := v) (by decide +kernel) rfl ⟨⟨h9, h11⟩, ⟨(Or.inl (kin_alen h12)), (vin_J h12 (by unfold vp_in; decide))⟩, trivial⟩ ?_
  refine sim_ge (o := 17) (tg := 56) (f := 42) (by decide +kernel) rfl rfl (fun _ => ?_) (fun _ => ?_)
  · refine sim_seg [(.iload_n 3, 0, 0, 0)] [] (q := 43) (L' := [some (.ref p0), none, some (.int p2), some (.int p3)]) (st' := [.int p3]) (v1 := v) (by decide +kernel) rfl trivial ?_
    refine sim_eq0 (o := 13) (tg := 56) (f := 46) (by decide +kernel) rfl rfl (fun _ => ?_) (fun _ => ?_)
    · exact sim_wk (L0 := [some (.ref p0), none, some (.int p2), none]) ⟨rfl, rfl, trivial⟩ (sK_gm_timeOfClock_56 N S v p0 p2)
    · refine sim_seg [(.aload_n 0, 0, 0, 0), (.ldc 92, 0, 0, 2000000)] [] (q := 49) (L' := [some (.ref p0), none, some (.int p2), some (.int p3)]) (st' := [.int (J 2000000), .ref p0]) (v1 := v) (by decide +kernel) rfl trivial ?_
      refine sc_pi (pc3 := 52) (cf_V (idx := 89) (ci := 6) [.int (J 2000000)] m_gm_comes (by decide) ⟨by decide, by decide⟩ (List.mem_of_getElem? (i := 1892) (by decide +kernel)) rfl (Nat.le_of_ble_eq_true rfl) h9 (by decide +kernel) (Nat.le_of_ble_eq_true rfl) rfl) (ok_gm_comes p0 (J 2000000) S v) rfl (fun x21 w22 => ?_)
      refine sim_seg [(.istore_n 3, 0, 0, 0)] [] (q := 53) (L' := [some (.ref p0), none, some (.int p2), some (.int x21)]) (st' := []) (v1 := w22) (by decide +kernel) rfl trivial ?_
      refine sim_seg [(.goto (-22), 0, 0, 0)] [] (q := 31) (L' := [some (.ref p0), none, some (.int p2), some (.int x21)]) (st' := []) (v1 := w22) (by decide +kernel) rfl trivial ?_
      exact j31 w22 p0 p2 x21
  · exact sim_wk (L0 := [some (.ref p0), none, some (.int p2), none]) ⟨rfl, rfl, trivial⟩ (sK_gm_timeOfClock_56 N S v p0 p2)
theorem sR_gm_timeOfClock_31 (N : Nat)  (S : shp)  (n : Nat) : ∀ (v : vl) (p0 : Nat) (p2 : Int32) (p3 : Int32), SimK B_gm_timeOfClock 31 [some (.ref p0), none, some (.int p2), some (.int p3)] [] S v (K_gm_timeOfClock_31 N  n S v p0 p2 p3) (ρpi S) := by
  induction n with
  | zero => intro v p0 p2 p3; exact sim_none
  | succ k ih => intro v p0 p2 p3; exact sY_gm_timeOfClock_31 N   _ S  ih v p0 p2 p3
theorem sK_gm_timeOfClock_31 (N : Nat)  (n : Nat) (S : shp) (v : vl) (p0 : Nat) (p2 : Int32) (p3 : Int32) : SimK B_gm_timeOfClock 31 [some (.ref p0), none, some (.int p2), some (.int p3)] [] S v (K_gm_timeOfClock_31 N  n S v p0 p2 p3) (ρpi S) := sR_gm_timeOfClock_31 N   S  n  v p0 p2 p3
noncomputable def F_gm_timeOfClock (N : Nat) (a0 : Nat) (b1 : Int32) (S : shp) (v : vl) : Option (Int32 × vl) :=
  grd (kin S a0 = some (0, 6)) <| lt (si v a0 10 (J 0)) fun w2 => (F_gm_noNumber a0 b1 S w2).bind fun (x3, w4) => (if x3 = (J 0) then (F_gm_thinks N a0 S w4).bind fun w5 => (gr S a0 0).bind fun r6 => grd (kin S r6 = some (1, 199)) <| K_gm_timeOfClock_31 N  N S w5 a0 ((gi w5 r6 11) + b1) (J 1) else some (((J 0), w4)))
theorem ok_gm_timeOfClock (N : Nat) (a0 : Nat) (b1 : Int32) (S : shp) (v : vl) : SimK B_gm_timeOfClock 0 (entB (bN B_gm_timeOfClock) [.ref a0, .int b1]) [] S v (F_gm_timeOfClock N a0 b1 S v) (ρpi S) := by
  show SimK B_gm_timeOfClock 0 [some (.ref a0), some (.int b1), none, none] [] S v (F_gm_timeOfClock N a0 b1 S v) _
  unfold F_gm_timeOfClock
  refine sim_grd fun h1 => ?_
  refine sim_seg [(.aload_n 0, 0, 0, 0), (.iconst 0, 0, 0, 0), (.putfield 38, 6, 10, 0), (.aload_n 0, 0, 0, 0), (.iload_n 1, 0, 0, 0)] [] (q := 7) (L' := [some (.ref a0), some (.int b1), none, none]) (st' := [.int b1, .ref a0]) (v1 := (si v a0 10 (J 0))) (by decide +kernel) rfl ⟨h1, trivial⟩ ?_
  refine sim_lt (x := (si v a0 10 (J 0))) ?_
  generalize (si v a0 10 (J 0)) = w2
  refine sc_pi (pc3 := 10) (cf_V (idx := 311) (ci := 6) [.int b1] m_gm_noNumber (by decide) ⟨by decide, by decide⟩ (List.mem_of_getElem? (i := 1952) (by decide +kernel)) rfl (Nat.le_of_ble_eq_true rfl) h1 (by decide +kernel) (Nat.le_of_ble_eq_true rfl) rfl) (ok_gm_noNumber a0 b1 S w2) rfl (fun x3 w4 => ?_)
  refine sim_eq0 (o := 5) (tg := 15) (f := 13) (by decide +kernel) rfl rfl (fun _ => ?_) (fun _ => ?_)
  · refine sim_seg [(.aload_n 0, 0, 0, 0)] [] (q := 16) (L' := [some (.ref a0), some (.int b1), none, none]) (st' := [.ref a0]) (v1 := w4) (by decide +kernel) rfl trivial ?_
    refine sc_pv (pc3 := 19) (cf_V (idx := 295) (ci := 6) [] m_gm_thinks (by decide) ⟨by decide, by decide⟩ (List.mem_of_getElem? (i := 1884) (by decide +kernel)) rfl (Nat.le_of_ble_eq_true rfl) h1 (by decide +kernel) (Nat.le_of_ble_eq_true rfl) rfl) (ok_gm_thinks N a0 S w4) rfl (fun w5 => ?_)
    refine sim_bind fun r6 h7 => ?_
    refine sim_grd fun h8 => ?_
    refine sim_seg [(.aload_n 0, 0, 0, 0), (.getfield 7, 6, 0, 0), (.bipush 11, 0, 0, 11), (.iaload, 0, 0, 0), (.iload_n 1, 0, 0, 0), (.iadd, 0, 0, 0), (.istore_n 2, 0, 0, 0)] [r6] (q := 29) (L' := [some (.ref a0), some (.int b1), some (.int ((gi w5 r6 11) + b1)), none]) (st' := []) (v1 := w5) (by decide +kernel) rfl ⟨⟨h1, h7⟩, ⟨(Or.inl (kin_alen h8)), (vin_J h8 (by unfold vp_in; decide))⟩, trivial⟩ ?_
    refine sim_seg [(.iconst 1, 0, 0, 1), (.istore_n 3, 0, 0, 0)] [] (q := 31) (L' := [some (.ref a0), some (.int b1), some (.int ((gi w5 r6 11) + b1)), some (.int (J 1))]) (st' := []) (v1 := w5) (by decide +kernel) rfl trivial ?_
    exact sim_wk (L0 := [some (.ref a0), none, some (.int ((gi w5 r6 11) + b1)), some (.int (J 1))]) ⟨rfl, rfl, rfl, trivial⟩ (sK_gm_timeOfClock_31 N N S w5 a0 ((gi w5 r6 11) + b1) (J 1))
  · refine sim_seg [(.iconst 0, 0, 0, 0)] [] (q := 14) (L' := [some (.ref a0), some (.int b1), none, none]) (st' := [.int (J 0)]) (v1 := w4) (by decide +kernel) rfl trivial ?_
    exact sim_iret (by decide +kernel) rfl rfl rfl
def B_gm_wobble : bd := (⟨"GateCounterModel", "wobble", "(I)I"⟩, prog_8_method_82_code, 6, (some .int), [], 6, 5)
theorem m_gm_wobble : mV B_gm_wobble 6 1 := ⟨⟨⟨by decide +kernel, Or.inl rfl⟩, rfl, (List.mem_of_getElem? (i := 1963) (by decide +kernel)), by decide +kernel, (List.mem_of_getElem? (i := 104) (by decide +kernel)), ⟨by decide, by decide⟩, by decide⟩, rfl, (by unfold nar; decide +kernel), (List.mem_of_getElem? (i := 1961) (by decide +kernel)), rfl, (List.mem_of_getElem? (i := 1962) (by decide +kernel))⟩
noncomputable def Y_gm_wobble_41 (N : Nat)  (i41 : vl → Nat → Int32 → Int32 → Int32 → Int32 → Option (Int32 × vl)) (S : shp) (v : vl) (p0 : Nat) (p1 : Int32) (p2 : Int32) (p3 : Int32) (p4 : Int32) : Option (Int32 × vl) :=
  (if p4 < p1 then grd (kin S p0 = some (0, 6)) <| (gr S p0 0).bind fun r11 => grd (kin S r11 = some (1, 199)) <| (F_gm_waitsFor N p0 (J 2) S v).bind fun (x14, w15) => (if x14 = (J 0) then (F_gm_back N p0 (J (-1)) S w15).bind fun (x16, w17) => some ((x16, w17)) else (F_ma_min p2 ((gi w15 r11 0) - (gi v r11 0)) S w15).bind fun x18 => (F_ma_max p3 ((gi w15 r11 0) - (gi v r11 0)) S w15).bind fun x19 => i41 w15 p0 p1 x18 x19 (p4 + (J 1))) else grd (kin S p0 = some (0, 6)) <| (F_gm_back N p0 (p3 - p2) S v).bind fun (x21, w22) => some ((x21, w22)))
noncomputable def K_gm_wobble_41 (N : Nat)  (n : Nat) (S : shp) : vl → Nat → Int32 → Int32 → Int32 → Int32 → Option (Int32 × vl) :=
  Nat.rec (motive := fun _ => vl → Nat → Int32 → Int32 → Int32 → Int32 → Option (Int32 × vl)) (fun _ _ _ _ _ _ => none) (fun _ i => Y_gm_wobble_41 N  i S) n
theorem sY_gm_wobble_41 (N : Nat)  (i41 : vl → Nat → Int32 → Int32 → Int32 → Int32 → Option (Int32 × vl)) (S : shp)  (j41 : ∀ (v : vl) (p0 : Nat) (p1 : Int32) (p2 : Int32) (p3 : Int32) (p4 : Int32), SimK B_gm_wobble 41 [some (.ref p0), some (.int p1), some (.int p2), some (.int p3), some (.int p4), none] [] S v (i41 v p0 p1 p2 p3 p4) (ρpi S)) (v : vl) (p0 : Nat) (p1 : Int32) (p2 : Int32) (p3 : Int32) (p4 : Int32) : SimK B_gm_wobble 41 [some (.ref p0), some (.int p1), some (.int p2), some (.int p3), some (.int p4), none] [] S v (Y_gm_wobble_41 N  i41 S v p0 p1 p2 p3 p4) (ρpi S) := by
  unfold Y_gm_wobble_41
  refine sim_seg [(.iload 4, 0, 0, 0), (.iload_n 1, 0, 0, 0)] [] (q := 44) (L' := [some (.ref p0), some (.int p1), some (.int p2), some (.int p3), some (.int p4), none]) (st' := [.int p1, .int p4]) (v1 := v) (by decide +kernel) rfl trivial ?_
  refine sim_ge (o := 59) (tg := 103) (f := 47) (by decide +kernel) rfl rfl (fun _ => ?_) (fun _ => ?_)
  · refine sim_grd fun h10 => ?_
    refine sim_bind fun r11 h12 => ?_
    refine sim_grd fun h13 => ?_
    refine sim_seg [(.aload_n 0, 0, 0, 0), (.getfield 7, 6, 0, 0), (.iconst 0, 0, 0, 0), (.iaload, 0, 0, 0), (.istore 5, 0, 0, 0)] [r11] (q := 55) (L' := [some (.ref p0), some (.int p1), some (.int p2), some (.int p3), some (.int p4), some (.int (gi v r11 0))]) (st' := []) (v1 := v) (by decide +kernel) rfl ⟨⟨h10, h12⟩, ⟨(Or.inl (kin_alen h13)), (vin_J h13 (by unfold vp_in; decide))⟩, trivial⟩ ?_
    refine sim_seg [(.aload_n 0, 0, 0, 0), (.iconst 2, 0, 0, 2)] [] (q := 57) (L' := [some (.ref p0), some (.int p1), some (.int p2), some (.int p3), some (.int p4), some (.int (gi v r11 0))]) (st' := [.int (J 2), .ref p0]) (v1 := v) (by decide +kernel) rfl trivial ?_
    refine sc_pi (pc3 := 60) (cf_V (idx := 108) (ci := 6) [.int (J 2)] m_gm_waitsFor (by decide) ⟨by decide, by decide⟩ (List.mem_of_getElem? (i := 1939) (by decide +kernel)) rfl (Nat.le_of_ble_eq_true rfl) h10 (by decide +kernel) (Nat.le_of_ble_eq_true rfl) rfl) (ok_gm_waitsFor N p0 (J 2) S v) rfl (fun x14 w15 => ?_)
    refine sim_ne0 (o := 9) (tg := 69) (f := 63) (by decide +kernel) rfl rfl (fun _ => ?_) (fun _ => ?_)
    · refine sim_seg [(.aload_n 0, 0, 0, 0), (.iconst (-1), 0, 0, (-1))] [] (q := 65) (L' := [some (.ref p0), some (.int p1), some (.int p2), some (.int p3), some (.int p4), some (.int (gi v r11 0))]) (st' := [.int (J (-1)), .ref p0]) (v1 := w15) (by decide +kernel) rfl trivial ?_
      refine sc_pi (pc3 := 68) (cf_V (idx := 301) (ci := 6) [.int (J (-1))] m_gm_back (by decide) ⟨by decide, by decide⟩ (List.mem_of_getElem? (i := 1919) (by decide +kernel)) rfl (Nat.le_of_ble_eq_true rfl) h10 (by decide +kernel) (Nat.le_of_ble_eq_true rfl) rfl) (ok_gm_back N p0 (J (-1)) S w15) rfl (fun x16 w17 => ?_)
      exact sim_iret (by decide +kernel) rfl rfl rfl
    · refine sim_seg [(.iload_n 2, 0, 0, 0), (.aload_n 0, 0, 0, 0), (.getfield 7, 6, 0, 0), (.iconst 0, 0, 0, 0), (.iaload, 0, 0, 0), (.iload 5, 0, 0, 0), (.isub, 0, 0, 0)] [r11] (q := 79) (L' := [some (.ref p0), some (.int p1), some (.int p2), some (.int p3), some (.int p4), some (.int (gi v r11 0))]) (st' := [.int ((gi w15 r11 0) - (gi v r11 0)), .int p2]) (v1 := w15) (by decide +kernel) rfl ⟨⟨h10, h12⟩, ⟨(Or.inl (kin_alen h13)), (vin_J h13 (by unfold vp_in; decide))⟩, trivial⟩ ?_
      refine sc_ri (pc3 := 82) (cf_S (idx := 60) [.int p2, .int ((gi w15 r11 0) - (gi v r11 0))] m_ma_min ⟨by decide, by decide⟩ (List.mem_of_getElem? (i := 1916) (by decide +kernel)) rfl (Nat.le_of_ble_eq_true rfl) (by decide +kernel) (Nat.le_of_ble_eq_true rfl) rfl) (ok_ma_min p2 ((gi w15 r11 0) - (gi v r11 0)) S w15) rfl (fun x18 => ?_)
      refine sim_seg [(.istore_n 2, 0, 0, 0)] [] (q := 83) (L' := [some (.ref p0), some (.int p1), some (.int x18), some (.int p3), some (.int p4), some (.int (gi v r11 0))]) (st' := []) (v1 := w15) (by decide +kernel) rfl trivial ?_
      refine sim_seg [(.iload_n 3, 0, 0, 0), (.aload_n 0, 0, 0, 0), (.getfield 7, 6, 0, 0), (.iconst 0, 0, 0, 0), (.iaload, 0, 0, 0), (.iload 5, 0, 0, 0), (.isub, 0, 0, 0)] [r11] (q := 93) (L' := [some (.ref p0), some (.int p1), some (.int x18), some (.int p3), some (.int p4), some (.int (gi v r11 0))]) (st' := [.int ((gi w15 r11 0) - (gi v r11 0)), .int p3]) (v1 := w15) (by decide +kernel) rfl ⟨⟨h10, h12⟩, ⟨(Or.inl (kin_alen h13)), (vin_J h13 (by unfold vp_in; decide))⟩, trivial⟩ ?_
      refine sc_ri (pc3 := 96) (cf_S (idx := 66) [.int p3, .int ((gi w15 r11 0) - (gi v r11 0))] m_ma_max ⟨by decide, by decide⟩ (List.mem_of_getElem? (i := 1917) (by decide +kernel)) rfl (Nat.le_of_ble_eq_true rfl) (by decide +kernel) (Nat.le_of_ble_eq_true rfl) rfl) (ok_ma_max p3 ((gi w15 r11 0) - (gi v r11 0)) S w15) rfl (fun x19 => ?_)
      refine sim_seg [(.istore_n 3, 0, 0, 0)] [] (q := 97) (L' := [some (.ref p0), some (.int p1), some (.int x18), some (.int x19), some (.int p4), some (.int (gi v r11 0))]) (st' := []) (v1 := w15) (by decide +kernel) rfl trivial ?_
      refine sim_seg [(.iinc 4 1, 0, 0, 1)] [] (q := 100) (L' := [some (.ref p0), some (.int p1), some (.int x18), some (.int x19), some (.int (p4 + (J 1))), some (.int (gi v r11 0))]) (st' := []) (v1 := w15) (by decide +kernel) rfl trivial ?_
      refine sim_seg [(.goto (-59), 0, 0, 0)] [] (q := 41) (L' := [some (.ref p0), some (.int p1), some (.int x18), some (.int x19), some (.int (p4 + (J 1))), some (.int (gi v r11 0))]) (st' := []) (v1 := w15) (by decide +kernel) rfl trivial ?_
      exact sim_wk (L0 := [some (.ref p0), some (.int p1), some (.int x18), some (.int x19), some (.int (p4 + (J 1))), none]) ⟨rfl, rfl, rfl, rfl, rfl, trivial⟩ (j41 w15 p0 p1 x18 x19 (p4 + (J 1)))
  · refine sim_seg [(.aload_n 0, 0, 0, 0), (.iload_n 3, 0, 0, 0), (.iload_n 2, 0, 0, 0), (.isub, 0, 0, 0)] [] (q := 107) (L' := [some (.ref p0), some (.int p1), some (.int p2), some (.int p3), some (.int p4), none]) (st' := [.int (p3 - p2), .ref p0]) (v1 := v) (by decide +kernel) rfl trivial ?_
    refine sim_grd fun h20 => ?_
    refine sc_pi (pc3 := 110) (cf_V (idx := 301) (ci := 6) [.int (p3 - p2)] m_gm_back (by decide) ⟨by decide, by decide⟩ (List.mem_of_getElem? (i := 1919) (by decide +kernel)) rfl (Nat.le_of_ble_eq_true rfl) h20 (by decide +kernel) (Nat.le_of_ble_eq_true rfl) rfl) (ok_gm_back N p0 (p3 - p2) S v) rfl (fun x21 w22 => ?_)
    exact sim_iret (by decide +kernel) rfl rfl rfl
theorem sR_gm_wobble_41 (N : Nat)  (S : shp)  (n : Nat) : ∀ (v : vl) (p0 : Nat) (p1 : Int32) (p2 : Int32) (p3 : Int32) (p4 : Int32), SimK B_gm_wobble 41 [some (.ref p0), some (.int p1), some (.int p2), some (.int p3), some (.int p4), none] [] S v (K_gm_wobble_41 N  n S v p0 p1 p2 p3 p4) (ρpi S) := by
  induction n with
  | zero => intro v p0 p1 p2 p3 p4; exact sim_none
  | succ k ih => intro v p0 p1 p2 p3 p4; exact sY_gm_wobble_41 N   _ S  ih v p0 p1 p2 p3 p4
theorem sK_gm_wobble_41 (N : Nat)  (n : Nat) (S : shp) (v : vl) (p0 : Nat) (p1 : Int32) (p2 : Int32) (p3 : Int32) (p4 : Int32) : SimK B_gm_wobble 41 [some (.ref p0), some (.int p1), some (.int p2), some (.int p3), some (.int p4), none] [] S v (K_gm_wobble_41 N  n S v p0 p1 p2 p3 p4) (ρpi S) := sR_gm_wobble_41 N   S  n  v p0 p1 p2 p3 p4
noncomputable def F_gm_wobble (N : Nat) (a0 : Nat) (b1 : Int32) (S : shp) (v : vl) : Option (Int32 × vl) :=
  grd (kin S a0 = some (0, 6)) <| lt (si v a0 10 (J 0)) fun w2 => (F_gm_noNumber a0 b1 S w2).bind fun (x3, w4) => (if x3 = (J 0) then (F_gm_thinks N a0 S w4).bind fun w5 => (F_gm_waitsFor N a0 (J 2) S w5).bind fun (x6, w7) => (if x6 = (J 0) then (F_gm_back N a0 (J (-1)) S w7).bind fun (x8, w9) => some ((x8, w9)) else K_gm_wobble_41 N  N S w7 a0 b1 (J 2000000) (J 0) (J 0)) else some (((J 0), w4)))
theorem ok_gm_wobble (N : Nat) (a0 : Nat) (b1 : Int32) (S : shp) (v : vl) : SimK B_gm_wobble 0 (entB (bN B_gm_wobble) [.ref a0, .int b1]) [] S v (F_gm_wobble N a0 b1 S v) (ρpi S) := by
  show SimK B_gm_wobble 0 [some (.ref a0), some (.int b1), none, none, none, none] [] S v (F_gm_wobble N a0 b1 S v) _
  unfold F_gm_wobble
  refine sim_grd fun h1 => ?_
  refine sim_seg [(.aload_n 0, 0, 0, 0), (.iconst 0, 0, 0, 0), (.putfield 38, 6, 10, 0), (.aload_n 0, 0, 0, 0), (.iload_n 1, 0, 0, 0)] [] (q := 7) (L' := [some (.ref a0), some (.int b1), none, none, none, none]) (st' := [.int b1, .ref a0]) (v1 := (si v a0 10 (J 0))) (by decide +kernel) rfl ⟨h1, trivial⟩ ?_
  refine sim_lt (x := (si v a0 10 (J 0))) ?_
  generalize (si v a0 10 (J 0)) = w2
  refine sc_pi (pc3 := 10) (cf_V (idx := 311) (ci := 6) [.int b1] m_gm_noNumber (by decide) ⟨by decide, by decide⟩ (List.mem_of_getElem? (i := 1952) (by decide +kernel)) rfl (Nat.le_of_ble_eq_true rfl) h1 (by decide +kernel) (Nat.le_of_ble_eq_true rfl) rfl) (ok_gm_noNumber a0 b1 S w2) rfl (fun x3 w4 => ?_)
  refine sim_eq0 (o := 5) (tg := 15) (f := 13) (by decide +kernel) rfl rfl (fun _ => ?_) (fun _ => ?_)
  · refine sim_seg [(.aload_n 0, 0, 0, 0)] [] (q := 16) (L' := [some (.ref a0), some (.int b1), none, none, none, none]) (st' := [.ref a0]) (v1 := w4) (by decide +kernel) rfl trivial ?_
    refine sc_pv (pc3 := 19) (cf_V (idx := 295) (ci := 6) [] m_gm_thinks (by decide) ⟨by decide, by decide⟩ (List.mem_of_getElem? (i := 1884) (by decide +kernel)) rfl (Nat.le_of_ble_eq_true rfl) h1 (by decide +kernel) (Nat.le_of_ble_eq_true rfl) rfl) (ok_gm_thinks N a0 S w4) rfl (fun w5 => ?_)
    refine sim_seg [(.aload_n 0, 0, 0, 0), (.iconst 2, 0, 0, 2)] [] (q := 21) (L' := [some (.ref a0), some (.int b1), none, none, none, none]) (st' := [.int (J 2), .ref a0]) (v1 := w5) (by decide +kernel) rfl trivial ?_
    refine sc_pi (pc3 := 24) (cf_V (idx := 108) (ci := 6) [.int (J 2)] m_gm_waitsFor (by decide) ⟨by decide, by decide⟩ (List.mem_of_getElem? (i := 1939) (by decide +kernel)) rfl (Nat.le_of_ble_eq_true rfl) h1 (by decide +kernel) (Nat.le_of_ble_eq_true rfl) rfl) (ok_gm_waitsFor N a0 (J 2) S w5) rfl (fun x6 w7 => ?_)
    refine sim_ne0 (o := 9) (tg := 33) (f := 27) (by decide +kernel) rfl rfl (fun _ => ?_) (fun _ => ?_)
    · refine sim_seg [(.aload_n 0, 0, 0, 0), (.iconst (-1), 0, 0, (-1))] [] (q := 29) (L' := [some (.ref a0), some (.int b1), none, none, none, none]) (st' := [.int (J (-1)), .ref a0]) (v1 := w7) (by decide +kernel) rfl trivial ?_
      refine sc_pi (pc3 := 32) (cf_V (idx := 301) (ci := 6) [.int (J (-1))] m_gm_back (by decide) ⟨by decide, by decide⟩ (List.mem_of_getElem? (i := 1919) (by decide +kernel)) rfl (Nat.le_of_ble_eq_true rfl) h1 (by decide +kernel) (Nat.le_of_ble_eq_true rfl) rfl) (ok_gm_back N a0 (J (-1)) S w7) rfl (fun x8 w9 => ?_)
      exact sim_iret (by decide +kernel) rfl rfl rfl
    · refine sim_seg [(.ldc 92, 0, 0, 2000000), (.istore_n 2, 0, 0, 0)] [] (q := 36) (L' := [some (.ref a0), some (.int b1), some (.int (J 2000000)), none, none, none]) (st' := []) (v1 := w7) (by decide +kernel) rfl trivial ?_
      refine sim_seg [(.iconst 0, 0, 0, 0), (.istore_n 3, 0, 0, 0)] [] (q := 38) (L' := [some (.ref a0), some (.int b1), some (.int (J 2000000)), some (.int (J 0)), none, none]) (st' := []) (v1 := w7) (by decide +kernel) rfl trivial ?_
      refine sim_seg [(.iconst 0, 0, 0, 0), (.istore 4, 0, 0, 0)] [] (q := 41) (L' := [some (.ref a0), some (.int b1), some (.int (J 2000000)), some (.int (J 0)), some (.int (J 0)), none]) (st' := []) (v1 := w7) (by decide +kernel) rfl trivial ?_
      exact sK_gm_wobble_41 N N S w7 a0 b1 (J 2000000) (J 0) (J 0)
  · refine sim_seg [(.iconst 0, 0, 0, 0)] [] (q := 14) (L' := [some (.ref a0), some (.int b1), none, none, none, none]) (st' := [.int (J 0)]) (v1 := w4) (by decide +kernel) rfl trivial ?_
    exact sim_iret (by decide +kernel) rfl rfl rfl
def B_gm_longestSilence : bd := (⟨"GateCounterModel", "longestSilence", "(I)I"⟩, prog_8_method_83_code, 6, (some .int), [], 6, 4)
theorem m_gm_longestSilence : mV B_gm_longestSilence 6 1 := ⟨⟨⟨by decide +kernel, Or.inl rfl⟩, rfl, (List.mem_of_getElem? (i := 1967) (by decide +kernel)), by decide +kernel, (List.mem_of_getElem? (i := 104) (by decide +kernel)), ⟨by decide, by decide⟩, by decide⟩, rfl, (by unfold nar; decide +kernel), (List.mem_of_getElem? (i := 1965) (by decide +kernel)), rfl, (List.mem_of_getElem? (i := 1966) (by decide +kernel))⟩
noncomputable def K_gm_longestSilence_78 (N : Nat) (i61 : vl → Nat → Int32 → Int32 → Int32 → Int32 → Option (Int32 × vl)) (S : shp) (v : vl) (p0 : Nat) (p2 : Int32) (p3 : Int32) (p4 : Int32) : Option (Int32 × vl) :=
  grd (kin S p0 = some (0, 6)) <| (gr S p0 0).bind fun r19 => grd (kin S r19 = some (1, 199)) <| (F_ma_max p4 ((gi v r19 0) - p3) S v).bind fun x22 => (F_gm_comes p0 p2 S v).bind fun (x23, w24) => i61 w24 p0 p2 (gi v r19 0) x22 x23
theorem sK_gm_longestSilence_780 (N : Nat) (i61 : vl → Nat → Int32 → Int32 → Int32 → Int32 → Option (Int32 × vl)) (S : shp) (j61 : ∀ (v : vl) (p0 : Nat) (p2 : Int32) (p3 : Int32) (p4 : Int32) (p5 : Int32), SimK B_gm_longestSilence 61 [some (.ref p0), none, some (.int p2), some (.int p3), some (.int p4), some (.int p5)] [] S v (i61 v p0 p2 p3 p4 p5) (ρpi S)) (v : vl) (p0 : Nat) (p2 : Int32) (p3 : Int32) (p4 : Int32) : SimK B_gm_longestSilence 78 [some (.ref p0), none, some (.int p2), some (.int p3), some (.int p4), none] [] S v (K_gm_longestSilence_78 N i61 S v p0 p2 p3 p4) (ρpi S) := by
  unfold K_gm_longestSilence_78
  refine sim_grd fun h18 => ?_
  refine sim_bind fun r19 h20 => ?_
  refine sim_grd fun h21 => ?_
  refine sim_seg [(.iload 4, 0, 0, 0), (.aload_n 0, 0, 0, 0), (.getfield 7, 6, 0, 0), (.iconst 0, 0, 0, 0), (.iaload, 0, 0, 0), (.iload_n 3, 0, 0, 0), (.isub, 0, 0, 0)] [r19] (q := 88) (L' := [some (.ref p0), none, some (.int p2), some (.int p3), some (.int p4), none]) (st' := [.int ((gi v r19 0) - p3), .int p4]) (v1 := v) (by decide +kernel) rfl ⟨⟨h18, h20⟩, ⟨(Or.inl (kin_alen h21)), (vin_J h21 (by unfold vp_in; decide))⟩, trivial⟩ ?_
  refine sc_ri (pc3 := 91) (cf_S (idx := 66) [.int p4, .int ((gi v r19 0) - p3)] m_ma_max ⟨by decide, by decide⟩ (List.mem_of_getElem? (i := 1917) (by decide +kernel)) rfl (Nat.le_of_ble_eq_true rfl) (by decide +kernel) (Nat.le_of_ble_eq_true rfl) rfl) (ok_ma_max p4 ((gi v r19 0) - p3) S v) rfl (fun x22 => ?_)
  refine sim_seg [(.istore 4, 0, 0, 0)] [] (q := 93) (L' := [some (.ref p0), none, some (.int p2), some (.int p3), some (.int x22), none]) (st' := []) (v1 := v) (by decide +kernel) rfl trivial ?_
  refine sim_seg [(.aload_n 0, 0, 0, 0), (.getfield 7, 6, 0, 0), (.iconst 0, 0, 0, 0), (.iaload, 0, 0, 0), (.istore_n 3, 0, 0, 0)] [r19] (q := 100) (L' := [some (.ref p0), none, some (.int p2), some (.int (gi v r19 0)), some (.int x22), none]) (st' := []) (v1 := v) (by decide +kernel) rfl ⟨⟨h18, h20⟩, ⟨(Or.inl (kin_alen h21)), (vin_J h21 (by unfold vp_in; decide))⟩, trivial⟩ ?_
  refine sim_seg [(.aload_n 0, 0, 0, 0), (.iload_n 2, 0, 0, 0)] [] (q := 102) (L' := [some (.ref p0), none, some (.int p2), some (.int (gi v r19 0)), some (.int x22), none]) (st' := [.int p2, .ref p0]) (v1 := v) (by decide +kernel) rfl trivial ?_
  refine sc_pi (pc3 := 105) (cf_V (idx := 89) (ci := 6) [.int p2] m_gm_comes (by decide) ⟨by decide, by decide⟩ (List.mem_of_getElem? (i := 1892) (by decide +kernel)) rfl (Nat.le_of_ble_eq_true rfl) h18 (by decide +kernel) (Nat.le_of_ble_eq_true rfl) rfl) (ok_gm_comes p0 p2 S v) rfl (fun x23 w24 => ?_)
  refine sim_seg [(.istore 5, 0, 0, 0)] [] (q := 107) (L' := [some (.ref p0), none, some (.int p2), some (.int (gi v r19 0)), some (.int x22), some (.int x23)]) (st' := []) (v1 := w24) (by decide +kernel) rfl trivial ?_
  refine sim_seg [(.goto (-46), 0, 0, 0)] [] (q := 61) (L' := [some (.ref p0), none, some (.int p2), some (.int (gi v r19 0)), some (.int x22), some (.int x23)]) (st' := []) (v1 := w24) (by decide +kernel) rfl trivial ?_
  exact j61 w24 p0 p2 (gi v r19 0) x22 x23
theorem sK_gm_longestSilence_78 (N : Nat) (i61 : vl → Nat → Int32 → Int32 → Int32 → Int32 → Option (Int32 × vl)) {S : shp} (j61 : ∀ (v : vl) (p0 : Nat) (p2 : Int32) (p3 : Int32) (p4 : Int32) (p5 : Int32), SimK B_gm_longestSilence 61 [some (.ref p0), none, some (.int p2), some (.int p3), some (.int p4), some (.int p5)] [] S v (i61 v p0 p2 p3 p4 p5) (ρpi S)) (S1 : shp) (v : vl) (p0 : Nat) (p2 : Int32) (p3 : Int32) (p4 : Int32) : SimK B_gm_longestSilence 78 [some (.ref p0), none, some (.int p2), some (.int p3), some (.int p4), none] [] S v (K_gm_longestSilence_78 N i61 S v p0 p2 p3 p4) (ρpi S) := sK_gm_longestSilence_780 N  i61 S j61  v p0 p2 p3 p4
noncomputable def Y_gm_longestSilence_61 (N : Nat)  (i61 : vl → Nat → Int32 → Int32 → Int32 → Int32 → Option (Int32 × vl)) (S : shp) (v : vl) (p0 : Nat) (p2 : Int32) (p3 : Int32) (p4 : Int32) (p5 : Int32) : Option (Int32 × vl) :=
  (if p5 = (J 0) then (F_ma_max p4 (p2 - p3) S v).bind fun x14 => grd (kin S p0 = some (0, 6)) <| (F_gm_back N p0 x14 S v).bind fun (x16, w17) => some ((x16, w17)) else (if p5 = (J 3) then K_gm_longestSilence_78 N i61 S v p0 p2 p3 p4 else (if p5 = (J 4) then K_gm_longestSilence_78 N i61 S v p0 p2 p3 p4 else grd (kin S p0 = some (0, 6)) <| (F_gm_comes p0 p2 S v).bind fun (x26, w27) => i61 w27 p0 p2 p3 p4 x26)))
noncomputable def K_gm_longestSilence_61 (N : Nat)  (n : Nat) (S : shp) : vl → Nat → Int32 → Int32 → Int32 → Int32 → Option (Int32 × vl) :=
  Nat.rec (motive := fun _ => vl → Nat → Int32 → Int32 → Int32 → Int32 → Option (Int32 × vl)) (fun _ _ _ _ _ _ => none) (fun _ i => Y_gm_longestSilence_61 N  i S) n
theorem sY_gm_longestSilence_61 (N : Nat)  (i61 : vl → Nat → Int32 → Int32 → Int32 → Int32 → Option (Int32 × vl)) (S : shp)  (j61 : ∀ (v : vl) (p0 : Nat) (p2 : Int32) (p3 : Int32) (p4 : Int32) (p5 : Int32), SimK B_gm_longestSilence 61 [some (.ref p0), none, some (.int p2), some (.int p3), some (.int p4), some (.int p5)] [] S v (i61 v p0 p2 p3 p4 p5) (ρpi S)) (v : vl) (p0 : Nat) (p2 : Int32) (p3 : Int32) (p4 : Int32) (p5 : Int32) : SimK B_gm_longestSilence 61 [some (.ref p0), none, some (.int p2), some (.int p3), some (.int p4), some (.int p5)] [] S v (Y_gm_longestSilence_61 N  i61 S v p0 p2 p3 p4 p5) (ρpi S) := by
  unfold Y_gm_longestSilence_61
  refine sim_seg [(.iload 5, 0, 0, 0)] [] (q := 63) (L' := [some (.ref p0), none, some (.int p2), some (.int p3), some (.int p4), some (.int p5)]) (st' := [.int p5]) (v1 := v) (by decide +kernel) rfl trivial ?_
  refine sim_eq0 (o := 47) (tg := 110) (f := 66) (by decide +kernel) rfl rfl (fun _ => ?_) (fun _ => ?_)
  · refine sim_seg [(.aload_n 0, 0, 0, 0), (.iload 4, 0, 0, 0), (.iload_n 2, 0, 0, 0), (.iload_n 3, 0, 0, 0), (.isub, 0, 0, 0)] [] (q := 116) (L' := [some (.ref p0), none, some (.int p2), some (.int p3), some (.int p4), some (.int p5)]) (st' := [.int (p2 - p3), .int p4, .ref p0]) (v1 := v) (by decide +kernel) rfl trivial ?_
    refine sc_ri (pc3 := 119) (cf_S (idx := 66) [.int p4, .int (p2 - p3)] m_ma_max ⟨by decide, by decide⟩ (List.mem_of_getElem? (i := 1917) (by decide +kernel)) rfl (Nat.le_of_ble_eq_true rfl) (by decide +kernel) (Nat.le_of_ble_eq_true rfl) rfl) (ok_ma_max p4 (p2 - p3) S v) rfl (fun x14 => ?_)
    refine sim_grd fun h15 => ?_
    refine sc_pi (pc3 := 122) (cf_V (idx := 301) (ci := 6) [.int x14] m_gm_back (by decide) ⟨by decide, by decide⟩ (List.mem_of_getElem? (i := 1919) (by decide +kernel)) rfl (Nat.le_of_ble_eq_true rfl) h15 (by decide +kernel) (Nat.le_of_ble_eq_true rfl) rfl) (ok_gm_back N p0 x14 S v) rfl (fun x16 w17 => ?_)
    exact sim_iret (by decide +kernel) rfl rfl rfl
  · refine sim_seg [(.iload 5, 0, 0, 0), (.iconst 3, 0, 0, 3)] [] (q := 69) (L' := [some (.ref p0), none, some (.int p2), some (.int p3), some (.int p4), some (.int p5)]) (st' := [.int (J 3), .int p5]) (v1 := v) (by decide +kernel) rfl trivial ?_
    refine sim_eq (o := 9) (tg := 78) (f := 72) (by decide +kernel) rfl rfl (fun _ => ?_) (fun _ => ?_)
    · exact sim_wk (L0 := [some (.ref p0), none, some (.int p2), some (.int p3), some (.int p4), none]) ⟨rfl, rfl, rfl, rfl, trivial⟩ (sK_gm_longestSilence_78 N i61 j61 S v p0 p2 p3 p4)
    · refine sim_seg [(.iload 5, 0, 0, 0), (.iconst 4, 0, 0, 4)] [] (q := 75) (L' := [some (.ref p0), none, some (.int p2), some (.int p3), some (.int p4), some (.int p5)]) (st' := [.int (J 4), .int p5]) (v1 := v) (by decide +kernel) rfl trivial ?_
      refine sim_ne (o := 25) (tg := 100) (f := 78) (by decide +kernel) rfl rfl (fun _ => ?_) (fun _ => ?_)
      · exact sim_wk (L0 := [some (.ref p0), none, some (.int p2), some (.int p3), some (.int p4), none]) ⟨rfl, rfl, rfl, rfl, trivial⟩ (sK_gm_longestSilence_78 N i61 j61 S v p0 p2 p3 p4)
      · refine sim_seg [(.aload_n 0, 0, 0, 0), (.iload_n 2, 0, 0, 0)] [] (q := 102) (L' := [some (.ref p0), none, some (.int p2), some (.int p3), some (.int p4), some (.int p5)]) (st' := [.int p2, .ref p0]) (v1 := v) (by decide +kernel) rfl trivial ?_
        refine sim_grd fun h25 => ?_
        refine sc_pi (pc3 := 105) (cf_V (idx := 89) (ci := 6) [.int p2] m_gm_comes (by decide) ⟨by decide, by decide⟩ (List.mem_of_getElem? (i := 1892) (by decide +kernel)) rfl (Nat.le_of_ble_eq_true rfl) h25 (by decide +kernel) (Nat.le_of_ble_eq_true rfl) rfl) (ok_gm_comes p0 p2 S v) rfl (fun x26 w27 => ?_)
        refine sim_seg [(.istore 5, 0, 0, 0)] [] (q := 107) (L' := [some (.ref p0), none, some (.int p2), some (.int p3), some (.int p4), some (.int x26)]) (st' := []) (v1 := w27) (by decide +kernel) rfl trivial ?_
        refine sim_seg [(.goto (-46), 0, 0, 0)] [] (q := 61) (L' := [some (.ref p0), none, some (.int p2), some (.int p3), some (.int p4), some (.int x26)]) (st' := []) (v1 := w27) (by decide +kernel) rfl trivial ?_
        exact j61 w27 p0 p2 p3 p4 x26
theorem sR_gm_longestSilence_61 (N : Nat)  (S : shp)  (n : Nat) : ∀ (v : vl) (p0 : Nat) (p2 : Int32) (p3 : Int32) (p4 : Int32) (p5 : Int32), SimK B_gm_longestSilence 61 [some (.ref p0), none, some (.int p2), some (.int p3), some (.int p4), some (.int p5)] [] S v (K_gm_longestSilence_61 N  n S v p0 p2 p3 p4 p5) (ρpi S) := by
  induction n with
  | zero => intro v p0 p2 p3 p4 p5; exact sim_none
  | succ k ih => intro v p0 p2 p3 p4 p5; exact sY_gm_longestSilence_61 N   _ S  ih v p0 p2 p3 p4 p5
theorem sK_gm_longestSilence_61 (N : Nat)  (n : Nat) (S : shp) (v : vl) (p0 : Nat) (p2 : Int32) (p3 : Int32) (p4 : Int32) (p5 : Int32) : SimK B_gm_longestSilence 61 [some (.ref p0), none, some (.int p2), some (.int p3), some (.int p4), some (.int p5)] [] S v (K_gm_longestSilence_61 N  n S v p0 p2 p3 p4 p5) (ρpi S) := sR_gm_longestSilence_61 N   S  n  v p0 p2 p3 p4 p5
noncomputable def K_gm_longestSilence_22 (N : Nat)  (S : shp) (v : vl) (p0 : Nat) (p1 : Int32) (s0 : Nat) (s1 : Int32) : Option (Int32 × vl) :=
  grd (kin S s0 = some (0, 6)) <| (F_gm_fails s0 s1 (J 1) S v).bind fun (x5, w6) => (if x5 = (J 0) then grd (kin S p0 = some (0, 6)) <| (F_gm_thinks N p0 S w6).bind fun w8 => (gr S p0 0).bind fun r9 => grd (kin S r9 = some (1, 199)) <| (F_gm_comes p0 ((gi w8 r9 0) + p1) S w8).bind fun (x12, w13) => K_gm_longestSilence_61 N  N S w13 p0 ((gi w8 r9 0) + p1) (gi w8 r9 0) (J 0) x12 else some (((J 0), w6)))
theorem sK_gm_longestSilence_22 (N : Nat)   (S : shp) (v : vl) (p0 : Nat) (p1 : Int32) (s0 : Nat) (s1 : Int32) : SimK B_gm_longestSilence 22 [some (.ref p0), some (.int p1), none, none, none, none] [.int s1, .ref s0] S v (K_gm_longestSilence_22 N  S v p0 p1 s0 s1) (ρpi S) := by
  unfold K_gm_longestSilence_22
  refine sim_seg [(.iconst 1, 0, 0, 1)] [] (q := 23) (L' := [some (.ref p0), some (.int p1), none, none, none, none]) (st' := [.int (J 1), .int s1, .ref s0]) (v1 := v) (by decide +kernel) rfl trivial ?_
  refine sim_grd fun h4 => ?_
  refine sc_pi (pc3 := 26) (cf_V (idx := 279) (ci := 6) [.int s1, .int (J 1)] m_gm_fails (by decide) ⟨by decide, by decide⟩ (List.mem_of_getElem? (i := 1827) (by decide +kernel)) rfl (Nat.le_of_ble_eq_true rfl) h4 (by decide +kernel) (Nat.le_of_ble_eq_true rfl) rfl) (ok_gm_fails s0 s1 (J 1) S v) rfl (fun x5 w6 => ?_)
  refine sim_eq0 (o := 5) (tg := 31) (f := 29) (by decide +kernel) rfl rfl (fun _ => ?_) (fun _ => ?_)
  · refine sim_seg [(.aload_n 0, 0, 0, 0)] [] (q := 32) (L' := [some (.ref p0), some (.int p1), none, none, none, none]) (st' := [.ref p0]) (v1 := w6) (by decide +kernel) rfl trivial ?_
    refine sim_grd fun h7 => ?_
    refine sc_pv (pc3 := 35) (cf_V (idx := 295) (ci := 6) [] m_gm_thinks (by decide) ⟨by decide, by decide⟩ (List.mem_of_getElem? (i := 1884) (by decide +kernel)) rfl (Nat.le_of_ble_eq_true rfl) h7 (by decide +kernel) (Nat.le_of_ble_eq_true rfl) rfl) (ok_gm_thinks N p0 S w6) rfl (fun w8 => ?_)
    refine sim_bind fun r9 h10 => ?_
    refine sim_grd fun h11 => ?_
    refine sim_seg [(.aload_n 0, 0, 0, 0), (.getfield 7, 6, 0, 0), (.iconst 0, 0, 0, 0), (.iaload, 0, 0, 0), (.iload_n 1, 0, 0, 0), (.iadd, 0, 0, 0), (.istore_n 2, 0, 0, 0)] [r9] (q := 44) (L' := [some (.ref p0), some (.int p1), some (.int ((gi w8 r9 0) + p1)), none, none, none]) (st' := []) (v1 := w8) (by decide +kernel) rfl ⟨⟨h7, h10⟩, ⟨(Or.inl (kin_alen h11)), (vin_J h11 (by unfold vp_in; decide))⟩, trivial⟩ ?_
    refine sim_seg [(.aload_n 0, 0, 0, 0), (.getfield 7, 6, 0, 0), (.iconst 0, 0, 0, 0), (.iaload, 0, 0, 0), (.istore_n 3, 0, 0, 0)] [r9] (q := 51) (L' := [some (.ref p0), some (.int p1), some (.int ((gi w8 r9 0) + p1)), some (.int (gi w8 r9 0)), none, none]) (st' := []) (v1 := w8) (by decide +kernel) rfl ⟨⟨h7, h10⟩, ⟨(Or.inl (kin_alen h11)), (vin_J h11 (by unfold vp_in; decide))⟩, trivial⟩ ?_
    refine sim_seg [(.iconst 0, 0, 0, 0), (.istore 4, 0, 0, 0)] [] (q := 54) (L' := [some (.ref p0), some (.int p1), some (.int ((gi w8 r9 0) + p1)), some (.int (gi w8 r9 0)), some (.int (J 0)), none]) (st' := []) (v1 := w8) (by decide +kernel) rfl trivial ?_
    refine sim_seg [(.aload_n 0, 0, 0, 0), (.iload_n 2, 0, 0, 0)] [] (q := 56) (L' := [some (.ref p0), some (.int p1), some (.int ((gi w8 r9 0) + p1)), some (.int (gi w8 r9 0)), some (.int (J 0)), none]) (st' := [.int ((gi w8 r9 0) + p1), .ref p0]) (v1 := w8) (by decide +kernel) rfl trivial ?_
    refine sc_pi (pc3 := 59) (cf_V (idx := 89) (ci := 6) [.int ((gi w8 r9 0) + p1)] m_gm_comes (by decide) ⟨by decide, by decide⟩ (List.mem_of_getElem? (i := 1892) (by decide +kernel)) rfl (Nat.le_of_ble_eq_true rfl) h7 (by decide +kernel) (Nat.le_of_ble_eq_true rfl) rfl) (ok_gm_comes p0 ((gi w8 r9 0) + p1) S w8) rfl (fun x12 w13 => ?_)
    refine sim_seg [(.istore 5, 0, 0, 0)] [] (q := 61) (L' := [some (.ref p0), some (.int p1), some (.int ((gi w8 r9 0) + p1)), some (.int (gi w8 r9 0)), some (.int (J 0)), some (.int x12)]) (st' := []) (v1 := w13) (by decide +kernel) rfl trivial ?_
    exact sim_wk (L0 := [some (.ref p0), none, some (.int ((gi w8 r9 0) + p1)), some (.int (gi w8 r9 0)), some (.int (J 0)), some (.int x12)]) ⟨rfl, rfl, rfl, rfl, rfl, trivial⟩ (sK_gm_longestSilence_61 N N S w13 p0 ((gi w8 r9 0) + p1) (gi w8 r9 0) (J 0) x12)
  · refine sim_seg [(.iconst 0, 0, 0, 0)] [] (q := 30) (L' := [some (.ref p0), some (.int p1), none, none, none, none]) (st' := [.int (J 0)]) (v1 := w6) (by decide +kernel) rfl trivial ?_
    exact sim_iret (by decide +kernel) rfl rfl rfl
noncomputable def F_gm_longestSilence (N : Nat) (a0 : Nat) (b1 : Int32) (S : shp) (v : vl) : Option (Int32 × vl) :=
  grd (kin S a0 = some (0, 6)) <| lt (si v a0 10 (J 0)) fun w2 => (F_gm_inRange b1 (J 1) (J 100000) S w2).bind fun x3 => (if x3 = (J 0) then K_gm_longestSilence_22 N  S w2 a0 b1 a0 (J 1) else K_gm_longestSilence_22 N  S w2 a0 b1 a0 (J 0))
theorem ok_gm_longestSilence (N : Nat) (a0 : Nat) (b1 : Int32) (S : shp) (v : vl) : SimK B_gm_longestSilence 0 (entB (bN B_gm_longestSilence) [.ref a0, .int b1]) [] S v (F_gm_longestSilence N a0 b1 S v) (ρpi S) := by
  show SimK B_gm_longestSilence 0 [some (.ref a0), some (.int b1), none, none, none, none] [] S v (F_gm_longestSilence N a0 b1 S v) _
  unfold F_gm_longestSilence
  refine sim_grd fun h1 => ?_
  refine sim_seg [(.aload_n 0, 0, 0, 0), (.iconst 0, 0, 0, 0), (.putfield 38, 6, 10, 0), (.aload_n 0, 0, 0, 0), (.iload_n 1, 0, 0, 0), (.iconst 1, 0, 0, 1), (.ldc_w 304, 0, 0, 100000)] [] (q := 11) (L' := [some (.ref a0), some (.int b1), none, none, none, none]) (st' := [.int (J 100000), .int (J 1), .int b1, .ref a0]) (v1 := (si v a0 10 (J 0))) (by decide +kernel) rfl ⟨h1, trivial⟩ ?_
  refine sim_lt (x := (si v a0 10 (J 0))) ?_
  generalize (si v a0 10 (J 0)) = w2
  refine sc_ri (pc3 := 14) (cf_S (idx := 41) [.int b1, .int (J 1), .int (J 100000)] m_gm_inRange ⟨by decide, by decide⟩ (List.mem_of_getElem? (i := 1712) (by decide +kernel)) rfl (Nat.le_of_ble_eq_true rfl) (by decide +kernel) (Nat.le_of_ble_eq_true rfl) rfl) (ok_gm_inRange b1 (J 1) (J 100000) S w2) rfl (fun x3 => ?_)
  refine sim_ne0 (o := 7) (tg := 21) (f := 17) (by decide +kernel) rfl rfl (fun _ => ?_) (fun _ => ?_)
  · refine sim_seg [(.iconst 1, 0, 0, 1), (.goto 4, 0, 0, 0)] [] (q := 22) (L' := [some (.ref a0), some (.int b1), none, none, none, none]) (st' := [.int (J 1), .ref a0]) (v1 := w2) (by decide +kernel) rfl trivial ?_
    exact sK_gm_longestSilence_22 N S w2 a0 b1 a0 (J 1)
  · refine sim_seg [(.iconst 0, 0, 0, 0)] [] (q := 22) (L' := [some (.ref a0), some (.int b1), none, none, none, none]) (st' := [.int (J 0), .ref a0]) (v1 := w2) (by decide +kernel) rfl trivial ?_
    exact sK_gm_longestSilence_22 N S w2 a0 b1 a0 (J 0)
