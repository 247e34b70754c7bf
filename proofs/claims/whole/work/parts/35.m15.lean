/-! Methods: gm_dropSegment, gm_drop, gm_undo, gm_write, gm_writePart, gm_writeNumber, gm_printMeasurement, gm_printSettings, gm_printSignal, gm_outputByte, gm_saveState, gm_restoreState. -/
def B_gm_dropSegment : bd := (⟨"GateCounterModel", "dropSegment", "()I"⟩, prog_8_method_122_code, 1, (some .int), [], 6, 3)
theorem m_gm_dropSegment : mV B_gm_dropSegment 6 0 := ⟨⟨⟨by decide +kernel, Or.inl rfl⟩, rfl, (List.mem_of_getElem? (i := 2187) (by decide +kernel)), by decide +kernel, (List.mem_of_getElem? (i := 104) (by decide +kernel)), ⟨by decide, by decide⟩, by decide⟩, rfl, (by unfold nar; decide +kernel), (List.mem_of_getElem? (i := 2185) (by decide +kernel)), rfl, (List.mem_of_getElem? (i := 2186) (by decide +kernel))⟩
noncomputable def K_gm_dropSegment_28 (N : Nat)  (S : shp) (v : vl) (p0 : Nat) (s0 : Nat) (s1 : Int32) : Option (Int32 × vl) :=
  grd (kin S s0 = some (0, 6)) <| (F_gm_fails s0 s1 (J 1) S v).bind fun (x7, w8) => (if x7 = (J 0) then grd (kin S p0 = some (0, 6)) <| (F_gm_remembers N p0 S w8).bind fun w10 => (gr S p0 0).bind fun r11 => grd (kin S r11 = some (1, 199)) <| lt (si w10 r11 19 ((gi w10 r11 19) - (J 1))) fun w14 => some (((gi w14 r11 19), w14)) else some (((J 0), w8)))
theorem sK_gm_dropSegment_28 (N : Nat)   (S : shp) (v : vl) (p0 : Nat) (s0 : Nat) (s1 : Int32) : SimK B_gm_dropSegment 28 [some (.ref p0)] [.int s1, .ref s0] S v (K_gm_dropSegment_28 N  S v p0 s0 s1) (ρpi S) := by
  unfold K_gm_dropSegment_28
  refine sim_seg [(.iconst 1, 0, 0, 1)] [] (q := 29) (L' := [some (.ref p0)]) (st' := [.int (J 1), .int s1, .ref s0]) (v1 := v) (by decide +kernel) rfl trivial ?_
  refine sim_grd fun h6 => ?_
  refine sc_pi (pc3 := 32) (cf_V (idx := 279) (ci := 6) [.int s1, .int (J 1)] m_gm_fails (by decide) ⟨by decide, by decide⟩ (List.mem_of_getElem? (i := 1827) (by decide +kernel)) rfl (Nat.le_of_ble_eq_true rfl) h6 (by decide +kernel) (Nat.le_of_ble_eq_true rfl) rfl) (ok_gm_fails s0 s1 (J 1) S v) rfl (fun x7 w8 => ?_)
  refine sim_eq0 (o := 5) (tg := 37) (f := 35) (by decide +kernel) rfl rfl (fun _ => ?_) (fun _ => ?_)
  · refine sim_seg [(.aload_n 0, 0, 0, 0)] [] (q := 38) (L' := [some (.ref p0)]) (st' := [.ref p0]) (v1 := w8) (by decide +kernel) rfl trivial ?_
    refine sim_grd fun h9 => ?_
    refine sc_pv (pc3 := 41) (cf_V (idx := 337) (ci := 6) [] m_gm_remembers (by decide) ⟨by decide, by decide⟩ (List.mem_of_getElem? (i := 2116) (by decide +kernel)) rfl (Nat.le_of_ble_eq_true rfl) h9 (by decide +kernel) (Nat.le_of_ble_eq_true rfl) rfl) (ok_gm_remembers N p0 S w8) rfl (fun w10 => ?_)
    refine sim_bind fun r11 h12 => ?_
    refine sim_grd fun h13 => ?_
    refine sim_seg [(.aload_n 0, 0, 0, 0), (.getfield 7, 6, 0, 0), (.bipush 19, 0, 0, 19), (.dup2, 0, 0, 0), (.iaload, 0, 0, 0), (.iconst 1, 0, 0, 1), (.isub, 0, 0, 0), (.iastore, 0, 0, 0), (.aload_n 0, 0, 0, 0)] [r11] (q := 53) (L' := [some (.ref p0)]) (st' := [.ref p0]) (v1 := (si w10 r11 19 ((gi w10 r11 19) - (J 1)))) (by decide +kernel) rfl ⟨⟨h9, h12⟩, ⟨(Or.inl (kin_alen h13)), (vin_J h13 (by unfold vp_in; decide))⟩, ⟨(kin_alen h13), (vin_J h13 (by unfold vp_in; decide))⟩, trivial⟩ ?_
    refine sim_lt (x := (si w10 r11 19 ((gi w10 r11 19) - (J 1)))) ?_
    generalize (si w10 r11 19 ((gi w10 r11 19) - (J 1))) = w14
    refine sim_seg [(.getfield 7, 6, 0, 0), (.bipush 19, 0, 0, 19), (.iaload, 0, 0, 0)] [r11] (q := 59) (L' := [some (.ref p0)]) (st' := [.int (gi w14 r11 19)]) (v1 := w14) (by decide +kernel) rfl ⟨⟨h9, h12⟩, ⟨(Or.inl (kin_alen h13)), (vin_J h13 (by unfold vp_in; decide))⟩, trivial⟩ ?_
    exact sim_iret (by decide +kernel) rfl rfl rfl
  · refine sim_seg [(.iconst 0, 0, 0, 0)] [] (q := 36) (L' := [some (.ref p0)]) (st' := [.int (J 0)]) (v1 := w8) (by decide +kernel) rfl trivial ?_
    exact sim_iret (by decide +kernel) rfl rfl rfl
noncomputable def F_gm_dropSegment (N : Nat) (a0 : Nat) (S : shp) (v : vl) : Option (Int32 × vl) :=
  grd (kin S a0 = some (0, 6)) <| lt (si v a0 10 (J 0)) fun w2 => (gr S a0 0).bind fun r3 => grd (kin S r3 = some (1, 199)) <| (if (gi w2 r3 20) = (gi w2 r3 19) then K_gm_dropSegment_28 N  S w2 a0 a0 (J 1) else K_gm_dropSegment_28 N  S w2 a0 a0 (J 0))
theorem ok_gm_dropSegment (N : Nat) (a0 : Nat) (S : shp) (v : vl) : SimK B_gm_dropSegment 0 (entB (bN B_gm_dropSegment) [.ref a0]) [] S v (F_gm_dropSegment N a0 S v) (ρpi S) := by
  show SimK B_gm_dropSegment 0 [some (.ref a0)] [] S v (F_gm_dropSegment N a0 S v) _
  unfold F_gm_dropSegment
  refine sim_grd fun h1 => ?_
  refine sim_seg [(.aload_n 0, 0, 0, 0), (.iconst 0, 0, 0, 0), (.putfield 38, 6, 10, 0), (.aload_n 0, 0, 0, 0), (.aload_n 0, 0, 0, 0)] [] (q := 7) (L' := [some (.ref a0)]) (st' := [.ref a0, .ref a0]) (v1 := (si v a0 10 (J 0))) (by decide +kernel) rfl ⟨h1, trivial⟩ ?_
  refine sim_lt (x := (si v a0 10 (J 0))) ?_
  generalize (si v a0 10 (J 0)) = w2
  refine sim_bind fun r3 h4 => ?_
  refine sim_grd fun h5 => ?_
  refine sim_seg [(.getfield 7, 6, 0, 0), (.bipush 20, 0, 0, 20), (.iaload, 0, 0, 0), (.aload_n 0, 0, 0, 0), (.getfield 7, 6, 0, 0), (.bipush 19, 0, 0, 19), (.iaload, 0, 0, 0)] [r3, r3] (q := 20) (L' := [some (.ref a0)]) (st' := [.int (gi w2 r3 19), .int (gi w2 r3 20), .ref a0]) (v1 := w2) (by decide +kernel) rfl ⟨⟨h1, h4⟩, ⟨(Or.inl (kin_alen h5)), (vin_J h5 (by unfold vp_in; decide))⟩, ⟨h1, h4⟩, ⟨(Or.inl (kin_alen h5)), (vin_J h5 (by unfold vp_in; decide))⟩, trivial⟩ ?_
  refine sim_ne (o := 7) (tg := 27) (f := 23) (by decide +kernel) rfl rfl (fun _ => ?_) (fun _ => ?_)
  · refine sim_seg [(.iconst 1, 0, 0, 1), (.goto 4, 0, 0, 0)] [] (q := 28) (L' := [some (.ref a0)]) (st' := [.int (J 1), .ref a0]) (v1 := w2) (by decide +kernel) rfl trivial ?_
    exact sK_gm_dropSegment_28 N S w2 a0 a0 (J 1)
  · refine sim_seg [(.iconst 0, 0, 0, 0)] [] (q := 28) (L' := [some (.ref a0)]) (st' := [.int (J 0), .ref a0]) (v1 := w2) (by decide +kernel) rfl trivial ?_
    exact sK_gm_dropSegment_28 N S w2 a0 a0 (J 0)
def B_gm_drop : bd := (⟨"GateCounterModel", "drop", "(I)I"⟩, prog_8_method_123_code, 2, (some .int), [], 6, 3)
theorem m_gm_drop : mV B_gm_drop 6 1 := ⟨⟨⟨by decide +kernel, Or.inl rfl⟩, rfl, (List.mem_of_getElem? (i := 2191) (by decide +kernel)), by decide +kernel, (List.mem_of_getElem? (i := 104) (by decide +kernel)), ⟨by decide, by decide⟩, by decide⟩, rfl, (by unfold nar; decide +kernel), (List.mem_of_getElem? (i := 2189) (by decide +kernel)), rfl, (List.mem_of_getElem? (i := 2190) (by decide +kernel))⟩
noncomputable def F_gm_drop (N : Nat) (a0 : Nat) (b1 : Int32) (S : shp) (v : vl) : Option (Int32 × vl) :=
  grd (kin S a0 = some (0, 6)) <| lt (si v a0 10 (J 0)) fun w2 => (F_gm_noMeasurement a0 b1 S w2).bind fun (x3, w4) => (if x3 = (J 0) then (F_gm_remembers N a0 S w4).bind fun w5 => (gr S a0 0).bind fun r6 => (F_gm_at a0 (b1 + (J 1)) S w5).bind fun x8 => (F_gm_at a0 b1 S w5).bind fun x9 => grd (kin S r6 = some (1, 199)) <| (F_gm_copies N r6 x8 r6 x9 ((J 8) * (((gi w5 r6 22) - (J 1)) - b1)) S w5).bind fun w11 => lt (si w11 r6 22 ((gi w11 r6 22) - (J 1))) fun w12 => some (((gi w12 r6 22), w12)) else some (((J 0), w4)))
theorem ok_gm_drop (N : Nat) (a0 : Nat) (b1 : Int32) (S : shp) (v : vl) : SimK B_gm_drop 0 (entB (bN B_gm_drop) [.ref a0, .int b1]) [] S v (F_gm_drop N a0 b1 S v) (ρpi S) := by
  show SimK B_gm_drop 0 [some (.ref a0), some (.int b1)] [] S v (F_gm_drop N a0 b1 S v) _
  unfold F_gm_drop
  refine sim_grd fun h1 => ?_
  refine sim_seg [(.aload_n 0, 0, 0, 0), (.iconst 0, 0, 0, 0), (.putfield 38, 6, 10, 0), (.aload_n 0, 0, 0, 0), (.iload_n 1, 0, 0, 0)] [] (q := 7) (L' := [some (.ref a0), some (.int b1)]) (st' := [.int b1, .ref a0]) (v1 := (si v a0 10 (J 0))) (by decide +kernel) rfl ⟨h1, trivial⟩ ?_
  refine sim_lt (x := (si v a0 10 (J 0))) ?_
  generalize (si v a0 10 (J 0)) = w2
  refine sc_pi (pc3 := 10) (cf_V (idx := 283) (ci := 6) [.int b1] m_gm_noMeasurement (by decide) ⟨by decide, by decide⟩ (List.mem_of_getElem? (i := 1843) (by decide +kernel)) rfl (Nat.le_of_ble_eq_true rfl) h1 (by decide +kernel) (Nat.le_of_ble_eq_true rfl) rfl) (ok_gm_noMeasurement a0 b1 S w2) rfl (fun x3 w4 => ?_)
  refine sim_eq0 (o := 5) (tg := 15) (f := 13) (by decide +kernel) rfl rfl (fun _ => ?_) (fun _ => ?_)
  · refine sim_seg [(.aload_n 0, 0, 0, 0)] [] (q := 16) (L' := [some (.ref a0), some (.int b1)]) (st' := [.ref a0]) (v1 := w4) (by decide +kernel) rfl trivial ?_
    refine sc_pv (pc3 := 19) (cf_V (idx := 337) (ci := 6) [] m_gm_remembers (by decide) ⟨by decide, by decide⟩ (List.mem_of_getElem? (i := 2116) (by decide +kernel)) rfl (Nat.le_of_ble_eq_true rfl) h1 (by decide +kernel) (Nat.le_of_ble_eq_true rfl) rfl) (ok_gm_remembers N a0 S w4) rfl (fun w5 => ?_)
    refine sim_bind fun r6 h7 => ?_
    refine sim_seg [(.aload_n 0, 0, 0, 0), (.getfield 7, 6, 0, 0), (.aload_n 0, 0, 0, 0), (.iload_n 1, 0, 0, 0), (.iconst 1, 0, 0, 1), (.iadd, 0, 0, 0)] [r6] (q := 27) (L' := [some (.ref a0), some (.int b1)]) (st' := [.int (b1 + (J 1)), .ref a0, .ref r6]) (v1 := w5) (by decide +kernel) rfl ⟨⟨h1, h7⟩, trivial⟩ ?_
    refine sc_ri (pc3 := 30) (cf_V (idx := 148) (ci := 6) [.int (b1 + (J 1))] m_gm_at (by decide) ⟨by decide, by decide⟩ (List.mem_of_getElem? (i := 1851) (by decide +kernel)) rfl (Nat.le_of_ble_eq_true rfl) h1 (by decide +kernel) (Nat.le_of_ble_eq_true rfl) rfl) (ok_gm_at a0 (b1 + (J 1)) S w5) rfl (fun x8 => ?_)
    refine sim_seg [(.aload_n 0, 0, 0, 0), (.getfield 7, 6, 0, 0), (.aload_n 0, 0, 0, 0), (.iload_n 1, 0, 0, 0)] [r6] (q := 36) (L' := [some (.ref a0), some (.int b1)]) (st' := [.int b1, .ref a0, .ref r6, .int x8, .ref r6]) (v1 := w5) (by decide +kernel) rfl ⟨⟨h1, h7⟩, trivial⟩ ?_
    refine sc_ri (pc3 := 39) (cf_V (idx := 148) (ci := 6) [.int b1] m_gm_at (by decide) ⟨by decide, by decide⟩ (List.mem_of_getElem? (i := 1851) (by decide +kernel)) rfl (Nat.le_of_ble_eq_true rfl) h1 (by decide +kernel) (Nat.le_of_ble_eq_true rfl) rfl) (ok_gm_at a0 b1 S w5) rfl (fun x9 => ?_)
    refine sim_grd fun h10 => ?_
    refine sim_seg [(.bipush 8, 0, 0, 8), (.aload_n 0, 0, 0, 0), (.getfield 7, 6, 0, 0), (.bipush 22, 0, 0, 22), (.iaload, 0, 0, 0), (.iconst 1, 0, 0, 1), (.isub, 0, 0, 0), (.iload_n 1, 0, 0, 0), (.isub, 0, 0, 0), (.imul, 0, 0, 0)] [r6] (q := 53) (L' := [some (.ref a0), some (.int b1)]) (st' := [.int ((J 8) * (((gi w5 r6 22) - (J 1)) - b1)), .int x9, .ref r6, .int x8, .ref r6]) (v1 := w5) (by decide +kernel) rfl ⟨⟨h1, h7⟩, ⟨(Or.inl (kin_alen h10)), (vin_J h10 (by unfold vp_in; decide))⟩, trivial⟩ ?_
    refine sc_pv (pc3 := 56) (cf_S (idx := 48) [.ref r6, .int x8, .ref r6, .int x9, .int ((J 8) * (((gi w5 r6 22) - (J 1)) - b1))] m_gm_copies ⟨by decide, by decide⟩ (List.mem_of_getElem? (i := 1719) (by decide +kernel)) rfl (Nat.le_of_ble_eq_true rfl) (by decide +kernel) (Nat.le_of_ble_eq_true rfl) rfl) (ok_gm_copies N r6 x8 r6 x9 ((J 8) * (((gi w5 r6 22) - (J 1)) - b1)) S w5) rfl (fun w11 => ?_)
    refine sim_seg [(.aload_n 0, 0, 0, 0), (.getfield 7, 6, 0, 0), (.bipush 22, 0, 0, 22), (.dup2, 0, 0, 0), (.iaload, 0, 0, 0), (.iconst 1, 0, 0, 1), (.isub, 0, 0, 0), (.iastore, 0, 0, 0), (.aload_n 0, 0, 0, 0)] [r6] (q := 68) (L' := [some (.ref a0), some (.int b1)]) (st' := [.ref a0]) (v1 := (si w11 r6 22 ((gi w11 r6 22) - (J 1)))) (by decide +kernel) rfl ⟨⟨h1, h7⟩, ⟨(Or.inl (kin_alen h10)), (vin_J h10 (by unfold vp_in; decide))⟩, ⟨(kin_alen h10), (vin_J h10 (by unfold vp_in; decide))⟩, trivial⟩ ?_
    refine sim_lt (x := (si w11 r6 22 ((gi w11 r6 22) - (J 1)))) ?_
    generalize (si w11 r6 22 ((gi w11 r6 22) - (J 1))) = w12
    refine sim_seg [(.getfield 7, 6, 0, 0), (.bipush 22, 0, 0, 22), (.iaload, 0, 0, 0)] [r6] (q := 74) (L' := [some (.ref a0), some (.int b1)]) (st' := [.int (gi w12 r6 22)]) (v1 := w12) (by decide +kernel) rfl ⟨⟨h1, h7⟩, ⟨(Or.inl (kin_alen h10)), (vin_J h10 (by unfold vp_in; decide))⟩, trivial⟩ ?_
    exact sim_iret (by decide +kernel) rfl rfl rfl
  · refine sim_seg [(.iconst 0, 0, 0, 0)] [] (q := 14) (L' := [some (.ref a0), some (.int b1)]) (st' := [.int (J 0)]) (v1 := w4) (by decide +kernel) rfl trivial ?_
    exact sim_iret (by decide +kernel) rfl rfl rfl
def B_gm_undo : bd := (⟨"GateCounterModel", "undo", "()I"⟩, prog_8_method_124_code, 1, (some .int), [], 6, 1)
theorem m_gm_undo : mV B_gm_undo 6 0 := ⟨⟨⟨by decide +kernel, Or.inl rfl⟩, rfl, (List.mem_of_getElem? (i := 2195) (by decide +kernel)), by decide +kernel, (List.mem_of_getElem? (i := 104) (by decide +kernel)), ⟨by decide, by decide⟩, by decide⟩, rfl, (by unfold nar; decide +kernel), (List.mem_of_getElem? (i := 2193) (by decide +kernel)), rfl, (List.mem_of_getElem? (i := 2194) (by decide +kernel))⟩
noncomputable def K_gm_undo_18 (N : Nat)  (S : shp) (v : vl) (p0 : Nat) (s0 : Nat) (s1 : Int32) : Option (Int32 × vl) :=
  grd (kin S s0 = some (0, 6)) <| (F_gm_fails s0 s1 (J 1) S v).bind fun (x4, w5) => (if x4 = (J 0) then grd (kin S p0 = some (0, 6)) <| lt (si w5 p0 5 ((gi w5 p0 5) - (J 1))) fun w7 => (gr S p0 4).bind fun r8 => (gr S p0 0).bind fun r10 => (F_gm_copies N r8 ((J 199) * (gi w7 p0 5)) r10 (J 0) (J 199) S w7).bind fun w12 => some (((gi w12 p0 5), w12)) else some (((J 0), w5)))
theorem sK_gm_undo_18 (N : Nat)   (S : shp) (v : vl) (p0 : Nat) (s0 : Nat) (s1 : Int32) : SimK B_gm_undo 18 [some (.ref p0)] [.int s1, .ref s0] S v (K_gm_undo_18 N  S v p0 s0 s1) (ρpi S) := by
  unfold K_gm_undo_18
  refine sim_seg [(.iconst 1, 0, 0, 1)] [] (q := 19) (L' := [some (.ref p0)]) (st' := [.int (J 1), .int s1, .ref s0]) (v1 := v) (by decide +kernel) rfl trivial ?_
  refine sim_grd fun h3 => ?_
  refine sc_pi (pc3 := 22) (cf_V (idx := 279) (ci := 6) [.int s1, .int (J 1)] m_gm_fails (by decide) ⟨by decide, by decide⟩ (List.mem_of_getElem? (i := 1827) (by decide +kernel)) rfl (Nat.le_of_ble_eq_true rfl) h3 (by decide +kernel) (Nat.le_of_ble_eq_true rfl) rfl) (ok_gm_fails s0 s1 (J 1) S v) rfl (fun x4 w5 => ?_)
  refine sim_eq0 (o := 5) (tg := 27) (f := 25) (by decide +kernel) rfl rfl (fun _ => ?_) (fun _ => ?_)
  · refine sim_grd fun h6 => ?_
    refine sim_seg [(.aload_n 0, 0, 0, 0), (.dup, 0, 0, 0), (.getfield 45, 6, 5, 0), (.iconst 1, 0, 0, 1), (.isub, 0, 0, 0), (.putfield 45, 6, 5, 0), (.aload_n 0, 0, 0, 0)] [] (q := 38) (L' := [some (.ref p0)]) (st' := [.ref p0]) (v1 := (si w5 p0 5 ((gi w5 p0 5) - (J 1)))) (by decide +kernel) rfl ⟨h6, h6, trivial⟩ ?_
    refine sim_lt (x := (si w5 p0 5 ((gi w5 p0 5) - (J 1)))) ?_
    generalize (si w5 p0 5 ((gi w5 p0 5) - (J 1))) = w7
    refine sim_bind fun r8 h9 => ?_
    refine sim_bind fun r10 h11 => ?_
    refine sim_seg [(.getfield 22, 6, 4, 0), (.sipush 199, 0, 0, 199), (.aload_n 0, 0, 0, 0), (.getfield 45, 6, 5, 0), (.imul, 0, 0, 0), (.aload_n 0, 0, 0, 0), (.getfield 7, 6, 0, 0), (.iconst 0, 0, 0, 0), (.sipush 199, 0, 0, 199)] [r8, r10] (q := 57) (L' := [some (.ref p0)]) (st' := [.int (J 199), .int (J 0), .ref r10, .int ((J 199) * (gi w7 p0 5)), .ref r8]) (v1 := w7) (by decide +kernel) rfl ⟨⟨h6, h9⟩, h6, ⟨h6, h11⟩, trivial⟩ ?_
    refine sc_pv (pc3 := 60) (cf_S (idx := 48) [.ref r8, .int ((J 199) * (gi w7 p0 5)), .ref r10, .int (J 0), .int (J 199)] m_gm_copies ⟨by decide, by decide⟩ (List.mem_of_getElem? (i := 1719) (by decide +kernel)) rfl (Nat.le_of_ble_eq_true rfl) (by decide +kernel) (Nat.le_of_ble_eq_true rfl) rfl) (ok_gm_copies N r8 ((J 199) * (gi w7 p0 5)) r10 (J 0) (J 199) S w7) rfl (fun w12 => ?_)
    refine sim_seg [(.aload_n 0, 0, 0, 0), (.getfield 45, 6, 5, 0)] [] (q := 64) (L' := [some (.ref p0)]) (st' := [.int (gi w12 p0 5)]) (v1 := w12) (by decide +kernel) rfl ⟨h6, trivial⟩ ?_
    exact sim_iret (by decide +kernel) rfl rfl rfl
  · refine sim_seg [(.iconst 0, 0, 0, 0)] [] (q := 26) (L' := [some (.ref p0)]) (st' := [.int (J 0)]) (v1 := w5) (by decide +kernel) rfl trivial ?_
    exact sim_iret (by decide +kernel) rfl rfl rfl
noncomputable def F_gm_undo (N : Nat) (a0 : Nat) (S : shp) (v : vl) : Option (Int32 × vl) :=
  grd (kin S a0 = some (0, 6)) <| lt (si v a0 10 (J 0)) fun w2 => (if (gi w2 a0 5) = (J 0) then K_gm_undo_18 N  S w2 a0 a0 (J 1) else K_gm_undo_18 N  S w2 a0 a0 (J 0))
theorem ok_gm_undo (N : Nat) (a0 : Nat) (S : shp) (v : vl) : SimK B_gm_undo 0 (entB (bN B_gm_undo) [.ref a0]) [] S v (F_gm_undo N a0 S v) (ρpi S) := by
  show SimK B_gm_undo 0 [some (.ref a0)] [] S v (F_gm_undo N a0 S v) _
  unfold F_gm_undo
  refine sim_grd fun h1 => ?_
  refine sim_seg [(.aload_n 0, 0, 0, 0), (.iconst 0, 0, 0, 0), (.putfield 38, 6, 10, 0), (.aload_n 0, 0, 0, 0), (.aload_n 0, 0, 0, 0)] [] (q := 7) (L' := [some (.ref a0)]) (st' := [.ref a0, .ref a0]) (v1 := (si v a0 10 (J 0))) (by decide +kernel) rfl ⟨h1, trivial⟩ ?_
  refine sim_lt (x := (si v a0 10 (J 0))) ?_
  generalize (si v a0 10 (J 0)) = w2
  refine sim_seg [(.getfield 45, 6, 5, 0)] [] (q := 10) (L' := [some (.ref a0)]) (st' := [.int (gi w2 a0 5), .ref a0]) (v1 := w2) (by decide +kernel) rfl ⟨h1, trivial⟩ ?_
  refine sim_ne0 (o := 7) (tg := 17) (f := 13) (by decide +kernel) rfl rfl (fun _ => ?_) (fun _ => ?_)
  · refine sim_seg [(.iconst 1, 0, 0, 1), (.goto 4, 0, 0, 0)] [] (q := 18) (L' := [some (.ref a0)]) (st' := [.int (J 1), .ref a0]) (v1 := w2) (by decide +kernel) rfl trivial ?_
    exact sK_gm_undo_18 N S w2 a0 a0 (J 1)
  · refine sim_seg [(.iconst 0, 0, 0, 0)] [] (q := 18) (L' := [some (.ref a0)]) (st' := [.int (J 0), .ref a0]) (v1 := w2) (by decide +kernel) rfl trivial ?_
    exact sK_gm_undo_18 N S w2 a0 a0 (J 0)
def B_gm_write : bd := (⟨"GateCounterModel", "write", "(I)V"⟩, prog_8_method_125_code, 2, none, [], 6, 0)
theorem m_gm_write : mV B_gm_write 6 1 := ⟨⟨⟨by decide +kernel, Or.inl rfl⟩, rfl, (List.mem_of_getElem? (i := 2203) (by decide +kernel)), by decide +kernel, (List.mem_of_getElem? (i := 104) (by decide +kernel)), ⟨by decide, by decide⟩, by decide⟩, rfl, (by unfold nar; decide +kernel), (List.mem_of_getElem? (i := 2202) (by decide +kernel)), rfl, (List.mem_of_getElem? (i := 91) (by decide +kernel))⟩
noncomputable def F_gm_write (a0 : Nat) (b1 : Int32) (S : shp) (v : vl) : Option vl :=
  grd (kin S a0 = some (0, 6)) <| (gr S a0 28).bind fun r2 => grd (kin S r2 = some (1, 300)) <| grd (vp_in (gi v a0 29) (alen S r2)) <| lt (si v r2 (Int32.toNatClampNeg (gi v a0 29)) b1) fun w6 => lt (si w6 a0 29 ((gi w6 a0 29) + (J 1))) fun w7 => some (w7)
theorem ok_gm_write (a0 : Nat) (b1 : Int32) (S : shp) (v : vl) : SimK B_gm_write 0 (entB (bN B_gm_write) [.ref a0, .int b1]) [] S v (F_gm_write a0 b1 S v) (ρpv S) := by
  show SimK B_gm_write 0 [some (.ref a0), some (.int b1)] [] S v (F_gm_write a0 b1 S v) _
  unfold F_gm_write
  refine sim_grd fun h1 => ?_
  refine sim_bind fun r2 h3 => ?_
  refine sim_grd fun h4 => ?_
  refine sim_grd fun h5 => ?_
  refine sim_seg [(.aload_n 0, 0, 0, 0), (.getfield 32, 6, 28, 0), (.aload_n 0, 0, 0, 0), (.getfield 360, 6, 29, 0), (.iload_n 1, 0, 0, 0), (.iastore, 0, 0, 0), (.aload_n 0, 0, 0, 0), (.dup, 0, 0, 0)] [r2] (q := 12) (L' := [some (.ref a0), some (.int b1)]) (st' := [.ref a0, .ref a0]) (v1 := (si v r2 (Int32.toNatClampNeg (gi v a0 29)) b1)) (by decide +kernel) rfl ⟨⟨h1, h3⟩, h1, ⟨(kin_alen h4), h5⟩, trivial⟩ ?_
  refine sim_lt (x := (si v r2 (Int32.toNatClampNeg (gi v a0 29)) b1)) ?_
  generalize (si v r2 (Int32.toNatClampNeg (gi v a0 29)) b1) = w6
  refine sim_seg [(.getfield 360, 6, 29, 0), (.iconst 1, 0, 0, 1), (.iadd, 0, 0, 0), (.putfield 360, 6, 29, 0)] [] (q := 20) (L' := [some (.ref a0), some (.int b1)]) (st' := []) (v1 := (si w6 a0 29 ((gi w6 a0 29) + (J 1)))) (by decide +kernel) rfl ⟨h1, h1, trivial⟩ ?_
  refine sim_lt (x := (si w6 a0 29 ((gi w6 a0 29) + (J 1)))) ?_
  generalize (si w6 a0 29 ((gi w6 a0 29) + (J 1))) = w7
  exact sim_vret (by decide +kernel) rfl rfl
def B_gm_writePart : bd := (⟨"GateCounterModel", "writePart", "(II)V"⟩, prog_8_method_126_code, 5, none, [], 6, 1)
theorem m_gm_writePart : mV B_gm_writePart 6 2 := ⟨⟨⟨by decide +kernel, Or.inl rfl⟩, rfl, (List.mem_of_getElem? (i := 2211) (by decide +kernel)), by decide +kernel, (List.mem_of_getElem? (i := 104) (by decide +kernel)), ⟨by decide, by decide⟩, by decide⟩, rfl, (by unfold nar; decide +kernel), (List.mem_of_getElem? (i := 2210) (by decide +kernel)), rfl, (List.mem_of_getElem? (i := 93) (by decide +kernel))⟩
noncomputable def Y_gm_writePart_21 (N : Nat)  (i21 : vl → Nat → Int32 → Int32 → Int32 → Option vl) (S : shp) (v : vl) (p0 : Nat) (p1 : Int32) (p3 : Int32) (p4 : Int32) : Option vl :=
  (if (J 0) < p3 then (if (J 0) < p4 then grd (¬ p3 = 0) <| grd (kin S p0 = some (0, 6)) <| (F_gm_write p0 ((J 48) + ((p1 / p3) - (p1 / p3) / (J 10) * (J 10))) S v).bind fun w4 => i21 w4 p0 p1 (p3 / (J 10)) (p4 + (J (-1))) else grd (kin S p0 = some (0, 6)) <| (F_gm_write p0 (J 120) S v).bind fun w6 => i21 w6 p0 p1 (p3 / (J 10)) (p4 + (J (-1)))) else some (v))
noncomputable def K_gm_writePart_21 (N : Nat)  (n : Nat) (S : shp) : vl → Nat → Int32 → Int32 → Int32 → Option vl :=
  Nat.rec (motive := fun _ => vl → Nat → Int32 → Int32 → Int32 → Option vl) (fun _ _ _ _ _ => none) (fun _ i => Y_gm_writePart_21 N  i S) n
theorem sY_gm_writePart_21 (N : Nat)  (i21 : vl → Nat → Int32 → Int32 → Int32 → Option vl) (S : shp)  (j21 : ∀ (v : vl) (p0 : Nat) (p1 : Int32) (p3 : Int32) (p4 : Int32), SimK B_gm_writePart 21 [some (.ref p0), some (.int p1), none, some (.int p3), some (.int p4)] [] S v (i21 v p0 p1 p3 p4) (ρpv S)) (v : vl) (p0 : Nat) (p1 : Int32) (p3 : Int32) (p4 : Int32) : SimK B_gm_writePart 21 [some (.ref p0), some (.int p1), none, some (.int p3), some (.int p4)] [] S v (Y_gm_writePart_21 N  i21 S v p0 p1 p3 p4) (ρpv S) := by
  unfold Y_gm_writePart_21
  refine sim_seg [(.iload_n 3, 0, 0, 0)] [] (q := 22) (L' := [some (.ref p0), some (.int p1), none, some (.int p3), some (.int p4)]) (st' := [.int p3]) (v1 := v) (by decide +kernel) rfl trivial ?_
  refine sim_le0 (o := 37) (tg := 59) (f := 25) (by decide +kernel) rfl rfl (fun _ => ?_) (fun _ => ?_)
  · refine sim_seg [(.aload_n 0, 0, 0, 0), (.iload 4, 0, 0, 0)] [] (q := 28) (L' := [some (.ref p0), some (.int p1), none, some (.int p3), some (.int p4)]) (st' := [.int p4, .ref p0]) (v1 := v) (by decide +kernel) rfl trivial ?_
    refine sim_le0 (o := 15) (tg := 43) (f := 31) (by decide +kernel) rfl rfl (fun _ => ?_) (fun _ => ?_)
    · refine sim_grd fun h2 => ?_
      refine sim_seg [(.bipush 48, 0, 0, 48), (.iload_n 1, 0, 0, 0), (.iload_n 3, 0, 0, 0), (.idiv, 0, 0, 0), (.bipush 10, 0, 0, 10), (.irem, 0, 0, 0), (.iadd, 0, 0, 0), (.goto 5, 0, 0, 0)] [] (q := 45) (L' := [some (.ref p0), some (.int p1), none, some (.int p3), some (.int p4)]) (st' := [.int ((J 48) + ((p1 / p3) - (p1 / p3) / (J 10) * (J 10))), .ref p0]) (v1 := v) (by decide +kernel) rfl ⟨h2, (by decide), trivial⟩ ?_
      refine sim_grd fun h3 => ?_
      refine sc_pv (pc3 := 48) (cf_V (idx := 363) (ci := 6) [.int ((J 48) + ((p1 / p3) - (p1 / p3) / (J 10) * (J 10)))] m_gm_write (by decide) ⟨by decide, by decide⟩ (List.mem_of_getElem? (i := 2200) (by decide +kernel)) rfl (Nat.le_of_ble_eq_true rfl) h3 (by decide +kernel) (Nat.le_of_ble_eq_true rfl) rfl) (ok_gm_write p0 ((J 48) + ((p1 / p3) - (p1 / p3) / (J 10) * (J 10))) S v) rfl (fun w4 => ?_)
      refine sim_seg [(.iinc 4 (-1), 0, 0, (-1))] [] (q := 51) (L' := [some (.ref p0), some (.int p1), none, some (.int p3), some (.int (p4 + (J (-1))))]) (st' := []) (v1 := w4) (by decide +kernel) rfl trivial ?_
      refine sim_seg [(.iload_n 3, 0, 0, 0), (.bipush 10, 0, 0, 10), (.idiv, 0, 0, 0), (.istore_n 3, 0, 0, 0)] [] (q := 56) (L' := [some (.ref p0), some (.int p1), none, some (.int (p3 / (J 10))), some (.int (p4 + (J (-1))))]) (st' := []) (v1 := w4) (by decide +kernel) rfl ⟨(by decide), trivial⟩ ?_
      refine sim_seg [(.goto (-35), 0, 0, 0)] [] (q := 21) (L' := [some (.ref p0), some (.int p1), none, some (.int (p3 / (J 10))), some (.int (p4 + (J (-1))))]) (st' := []) (v1 := w4) (by decide +kernel) rfl trivial ?_
      exact j21 w4 p0 p1 (p3 / (J 10)) (p4 + (J (-1)))
    · refine sim_seg [(.bipush 120, 0, 0, 120)] [] (q := 45) (L' := [some (.ref p0), some (.int p1), none, some (.int p3), some (.int p4)]) (st' := [.int (J 120), .ref p0]) (v1 := v) (by decide +kernel) rfl trivial ?_
      refine sim_grd fun h5 => ?_
      refine sc_pv (pc3 := 48) (cf_V (idx := 363) (ci := 6) [.int (J 120)] m_gm_write (by decide) ⟨by decide, by decide⟩ (List.mem_of_getElem? (i := 2200) (by decide +kernel)) rfl (Nat.le_of_ble_eq_true rfl) h5 (by decide +kernel) (Nat.le_of_ble_eq_true rfl) rfl) (ok_gm_write p0 (J 120) S v) rfl (fun w6 => ?_)
      refine sim_seg [(.iinc 4 (-1), 0, 0, (-1))] [] (q := 51) (L' := [some (.ref p0), some (.int p1), none, some (.int p3), some (.int (p4 + (J (-1))))]) (st' := []) (v1 := w6) (by decide +kernel) rfl trivial ?_
      refine sim_seg [(.iload_n 3, 0, 0, 0), (.bipush 10, 0, 0, 10), (.idiv, 0, 0, 0), (.istore_n 3, 0, 0, 0)] [] (q := 56) (L' := [some (.ref p0), some (.int p1), none, some (.int (p3 / (J 10))), some (.int (p4 + (J (-1))))]) (st' := []) (v1 := w6) (by decide +kernel) rfl ⟨(by decide), trivial⟩ ?_
      refine sim_seg [(.goto (-35), 0, 0, 0)] [] (q := 21) (L' := [some (.ref p0), some (.int p1), none, some (.int (p3 / (J 10))), some (.int (p4 + (J (-1))))]) (st' := []) (v1 := w6) (by decide +kernel) rfl trivial ?_
      exact j21 w6 p0 p1 (p3 / (J 10)) (p4 + (J (-1)))
  · exact sim_vret (by decide +kernel) rfl rfl
theorem sR_gm_writePart_21 (N : Nat)  (S : shp)  (n : Nat) : ∀ (v : vl) (p0 : Nat) (p1 : Int32) (p3 : Int32) (p4 : Int32), SimK B_gm_writePart 21 [some (.ref p0), some (.int p1), none, some (.int p3), some (.int p4)] [] S v (K_gm_writePart_21 N  n S v p0 p1 p3 p4) (ρpv S) := by
  induction n with
  | zero => intro v p0 p1 p3 p4; exact sim_none
  | succ k ih => intro v p0 p1 p3 p4; exact sY_gm_writePart_21 N   _ S  ih v p0 p1 p3 p4
theorem sK_gm_writePart_21 (N : Nat)  (n : Nat) (S : shp) (v : vl) (p0 : Nat) (p1 : Int32) (p3 : Int32) (p4 : Int32) : SimK B_gm_writePart 21 [some (.ref p0), some (.int p1), none, some (.int p3), some (.int p4)] [] S v (K_gm_writePart_21 N  n S v p0 p1 p3 p4) (ρpv S) := sR_gm_writePart_21 N   S  n  v p0 p1 p3 p4
noncomputable def Y_gm_writePart_2 (N : Nat)  (i2 : vl → Nat → Int32 → Int32 → Int32 → Option vl) (S : shp) (v : vl) (p0 : Nat) (p1 : Int32) (p2 : Int32) (p3 : Int32) : Option vl :=
  grd (¬ p3 = 0) <| (if (J 9) < (p1 / p3) then i2 v p0 p1 p2 (p3 * (J 10)) else K_gm_writePart_21 N  N S v p0 p1 p3 p2)
noncomputable def K_gm_writePart_2 (N : Nat)  (n : Nat) (S : shp) : vl → Nat → Int32 → Int32 → Int32 → Option vl :=
  Nat.rec (motive := fun _ => vl → Nat → Int32 → Int32 → Int32 → Option vl) (fun _ _ _ _ _ => none) (fun _ i => Y_gm_writePart_2 N  i S) n
theorem sY_gm_writePart_2 (N : Nat)  (i2 : vl → Nat → Int32 → Int32 → Int32 → Option vl) (S : shp)  (j2 : ∀ (v : vl) (p0 : Nat) (p1 : Int32) (p2 : Int32) (p3 : Int32), SimK B_gm_writePart 2 [some (.ref p0), some (.int p1), some (.int p2), some (.int p3), none] [] S v (i2 v p0 p1 p2 p3) (ρpv S)) (v : vl) (p0 : Nat) (p1 : Int32) (p2 : Int32) (p3 : Int32) : SimK B_gm_writePart 2 [some (.ref p0), some (.int p1), some (.int p2), some (.int p3), none] [] S v (Y_gm_writePart_2 N  i2 S v p0 p1 p2 p3) (ρpv S) := by
  unfold Y_gm_writePart_2
  refine sim_grd fun h1 => ?_
  refine sim_seg [(.iload_n 1, 0, 0, 0), (.iload_n 3, 0, 0, 0), (.idiv, 0, 0, 0), (.bipush 9, 0, 0, 9)] [] (q := 7) (L' := [some (.ref p0), some (.int p1), some (.int p2), some (.int p3), none]) (st' := [.int (J 9), .int (p1 / p3)]) (v1 := v) (by decide +kernel) rfl ⟨h1, trivial⟩ ?_
  refine sim_le (o := 11) (tg := 18) (f := 10) (by decide +kernel) rfl rfl (fun _ => ?_) (fun _ => ?_)
  · refine sim_seg [(.iload_n 3, 0, 0, 0), (.bipush 10, 0, 0, 10), (.imul, 0, 0, 0), (.istore_n 3, 0, 0, 0)] [] (q := 15) (L' := [some (.ref p0), some (.int p1), some (.int p2), some (.int (p3 * (J 10))), none]) (st' := []) (v1 := v) (by decide +kernel) rfl trivial ?_
    refine sim_seg [(.goto (-13), 0, 0, 0)] [] (q := 2) (L' := [some (.ref p0), some (.int p1), some (.int p2), some (.int (p3 * (J 10))), none]) (st' := []) (v1 := v) (by decide +kernel) rfl trivial ?_
    exact j2 v p0 p1 p2 (p3 * (J 10))
  · refine sim_seg [(.iload_n 2, 0, 0, 0), (.istore 4, 0, 0, 0)] [] (q := 21) (L' := [some (.ref p0), some (.int p1), some (.int p2), some (.int p3), some (.int p2)]) (st' := []) (v1 := v) (by decide +kernel) rfl trivial ?_
    exact sim_wk (L0 := [some (.ref p0), some (.int p1), none, some (.int p3), some (.int p2)]) ⟨rfl, rfl, rfl, rfl, trivial⟩ (sK_gm_writePart_21 N N S v p0 p1 p3 p2)
theorem sR_gm_writePart_2 (N : Nat)  (S : shp)  (n : Nat) : ∀ (v : vl) (p0 : Nat) (p1 : Int32) (p2 : Int32) (p3 : Int32), SimK B_gm_writePart 2 [some (.ref p0), some (.int p1), some (.int p2), some (.int p3), none] [] S v (K_gm_writePart_2 N  n S v p0 p1 p2 p3) (ρpv S) := by
  induction n with
  | zero => intro v p0 p1 p2 p3; exact sim_none
  | succ k ih => intro v p0 p1 p2 p3; exact sY_gm_writePart_2 N   _ S  ih v p0 p1 p2 p3
theorem sK_gm_writePart_2 (N : Nat)  (n : Nat) (S : shp) (v : vl) (p0 : Nat) (p1 : Int32) (p2 : Int32) (p3 : Int32) : SimK B_gm_writePart 2 [some (.ref p0), some (.int p1), some (.int p2), some (.int p3), none] [] S v (K_gm_writePart_2 N  n S v p0 p1 p2 p3) (ρpv S) := sR_gm_writePart_2 N   S  n  v p0 p1 p2 p3
noncomputable def F_gm_writePart (N : Nat) (a0 : Nat) (b1 : Int32) (b2 : Int32) (S : shp) (v : vl) : Option vl :=
  K_gm_writePart_2 N  N S v a0 b1 b2 (J 1)
theorem ok_gm_writePart (N : Nat) (a0 : Nat) (b1 : Int32) (b2 : Int32) (S : shp) (v : vl) : SimK B_gm_writePart 0 (entB (bN B_gm_writePart) [.ref a0, .int b1, .int b2]) [] S v (F_gm_writePart N a0 b1 b2 S v) (ρpv S) := by
  show SimK B_gm_writePart 0 [some (.ref a0), some (.int b1), some (.int b2), none, none] [] S v (F_gm_writePart N a0 b1 b2 S v) _
  unfold F_gm_writePart
  refine sim_seg [(.iconst 1, 0, 0, 1), (.istore_n 3, 0, 0, 0)] [] (q := 2) (L' := [some (.ref a0), some (.int b1), some (.int b2), some (.int (J 1)), none]) (st' := []) (v1 := v) (by decide +kernel) rfl trivial ?_
  exact sK_gm_writePart_2 N N S v a0 b1 b2 (J 1)
def B_gm_writeNumber : bd := (⟨"GateCounterModel", "writeNumber", "(I)V"⟩, prog_8_method_127_code, 2, none, [], 6, 2)
theorem m_gm_writeNumber : mV B_gm_writeNumber 6 1 := ⟨⟨⟨by decide +kernel, Or.inl rfl⟩, rfl, (List.mem_of_getElem? (i := 2207) (by decide +kernel)), by decide +kernel, (List.mem_of_getElem? (i := 104) (by decide +kernel)), ⟨by decide, by decide⟩, by decide⟩, rfl, (by unfold nar; decide +kernel), (List.mem_of_getElem? (i := 2206) (by decide +kernel)), rfl, (List.mem_of_getElem? (i := 92) (by decide +kernel))⟩
noncomputable def F_gm_writeNumber (N : Nat) (a0 : Nat) (b1 : Int32) (S : shp) (v : vl) : Option vl :=
  (if b1 < (J 0) then grd (kin S a0 = some (0, 6)) <| (F_gm_write a0 (J 45) S v).bind fun w2 => (F_ma_abs b1 S w2).bind fun x3 => (F_gm_writePart N a0 x3 (J 10) S w2).bind fun w4 => some (w4) else (F_ma_abs b1 S v).bind fun x5 => grd (kin S a0 = some (0, 6)) <| (F_gm_writePart N a0 x5 (J 10) S v).bind fun w7 => some (w7))
theorem ok_gm_writeNumber (N : Nat) (a0 : Nat) (b1 : Int32) (S : shp) (v : vl) : SimK B_gm_writeNumber 0 (entB (bN B_gm_writeNumber) [.ref a0, .int b1]) [] S v (F_gm_writeNumber N a0 b1 S v) (ρpv S) := by
  show SimK B_gm_writeNumber 0 [some (.ref a0), some (.int b1)] [] S v (F_gm_writeNumber N a0 b1 S v) _
  unfold F_gm_writeNumber
  refine sim_seg [(.iload_n 1, 0, 0, 0)] [] (q := 1) (L' := [some (.ref a0), some (.int b1)]) (st' := [.int b1]) (v1 := v) (by decide +kernel) rfl trivial ?_
  refine sim_ge0 (o := 9) (tg := 10) (f := 4) (by decide +kernel) rfl rfl (fun _ => ?_) (fun _ => ?_)
  · refine sim_seg [(.aload_n 0, 0, 0, 0), (.bipush 45, 0, 0, 45)] [] (q := 7) (L' := [some (.ref a0), some (.int b1)]) (st' := [.int (J 45), .ref a0]) (v1 := v) (by decide +kernel) rfl trivial ?_
    refine sim_grd fun h1 => ?_
    refine sc_pv (pc3 := 10) (cf_V (idx := 363) (ci := 6) [.int (J 45)] m_gm_write (by decide) ⟨by decide, by decide⟩ (List.mem_of_getElem? (i := 2200) (by decide +kernel)) rfl (Nat.le_of_ble_eq_true rfl) h1 (by decide +kernel) (Nat.le_of_ble_eq_true rfl) rfl) (ok_gm_write a0 (J 45) S v) rfl (fun w2 => ?_)
    refine sim_seg [(.aload_n 0, 0, 0, 0), (.iload_n 1, 0, 0, 0)] [] (q := 12) (L' := [some (.ref a0), some (.int b1)]) (st' := [.int b1, .ref a0]) (v1 := w2) (by decide +kernel) rfl trivial ?_
    refine sc_ri (pc3 := 15) (cf_S (idx := 317) [.int b1] m_ma_abs ⟨by decide, by decide⟩ (List.mem_of_getElem? (i := 1975) (by decide +kernel)) rfl (Nat.le_of_ble_eq_true rfl) (by decide +kernel) (Nat.le_of_ble_eq_true rfl) rfl) (ok_ma_abs b1 S w2) rfl (fun x3 => ?_)
    refine sim_seg [(.bipush 10, 0, 0, 10)] [] (q := 17) (L' := [some (.ref a0), some (.int b1)]) (st' := [.int (J 10), .int x3, .ref a0]) (v1 := w2) (by decide +kernel) rfl trivial ?_
    refine sc_pv (pc3 := 20) (cf_V (idx := 366) (ci := 6) [.int x3, .int (J 10)] m_gm_writePart (by decide) ⟨by decide, by decide⟩ (List.mem_of_getElem? (i := 2208) (by decide +kernel)) rfl (Nat.le_of_ble_eq_true rfl) h1 (by decide +kernel) (Nat.le_of_ble_eq_true rfl) rfl) (ok_gm_writePart N a0 x3 (J 10) S w2) rfl (fun w4 => ?_)
    exact sim_vret (by decide +kernel) rfl rfl
  · refine sim_seg [(.aload_n 0, 0, 0, 0), (.iload_n 1, 0, 0, 0)] [] (q := 12) (L' := [some (.ref a0), some (.int b1)]) (st' := [.int b1, .ref a0]) (v1 := v) (by decide +kernel) rfl trivial ?_
    refine sc_ri (pc3 := 15) (cf_S (idx := 317) [.int b1] m_ma_abs ⟨by decide, by decide⟩ (List.mem_of_getElem? (i := 1975) (by decide +kernel)) rfl (Nat.le_of_ble_eq_true rfl) (by decide +kernel) (Nat.le_of_ble_eq_true rfl) rfl) (ok_ma_abs b1 S v) rfl (fun x5 => ?_)
    refine sim_seg [(.bipush 10, 0, 0, 10)] [] (q := 17) (L' := [some (.ref a0), some (.int b1)]) (st' := [.int (J 10), .int x5, .ref a0]) (v1 := v) (by decide +kernel) rfl trivial ?_
    refine sim_grd fun h6 => ?_
    refine sc_pv (pc3 := 20) (cf_V (idx := 366) (ci := 6) [.int x5, .int (J 10)] m_gm_writePart (by decide) ⟨by decide, by decide⟩ (List.mem_of_getElem? (i := 2208) (by decide +kernel)) rfl (Nat.le_of_ble_eq_true rfl) h6 (by decide +kernel) (Nat.le_of_ble_eq_true rfl) rfl) (ok_gm_writePart N a0 x5 (J 10) S v) rfl (fun w7 => ?_)
    exact sim_vret (by decide +kernel) rfl rfl
def B_gm_printMeasurement : bd := (⟨"GateCounterModel", "printMeasurement", "(I)I"⟩, prog_8_method_128_code, 2, (some .int), [], 6, 3)
theorem m_gm_printMeasurement : mV B_gm_printMeasurement 6 1 := ⟨⟨⟨by decide +kernel, Or.inl rfl⟩, rfl, (List.mem_of_getElem? (i := 2199) (by decide +kernel)), by decide +kernel, (List.mem_of_getElem? (i := 104) (by decide +kernel)), ⟨by decide, by decide⟩, by decide⟩, rfl, (by unfold nar; decide +kernel), (List.mem_of_getElem? (i := 2197) (by decide +kernel)), rfl, (List.mem_of_getElem? (i := 2198) (by decide +kernel))⟩
noncomputable def K_gm_printMeasurement_38 (N : Nat)  (S : shp) (v : vl) (p0 : Nat) (p1 : Int32) (s0 : Nat) (s1 : Int32) : Option (Int32 × vl) :=
  grd (kin S s0 = some (0, 6)) <| (F_gm_write s0 s1 S v).bind fun w8 => grd (kin S p0 = some (0, 6)) <| (F_gm_of p0 p1 (J 3) S w8).bind fun x10 => (F_gm_writeNumber N p0 x10 S w8).bind fun w11 => (F_gm_write p0 (J 58) S w11).bind fun w12 => (F_gm_of p0 p1 (J 4) S w12).bind fun x13 => (F_gm_of p0 p1 (J 5) S w12).bind fun x14 => (F_ma_max (J 1) x14 S w12).bind fun x15 => (F_gm_writePart N p0 x13 x15 S w12).bind fun w16 => some (((gi w16 p0 29), w16))
theorem sK_gm_printMeasurement_38 (N : Nat)   (S : shp) (v : vl) (p0 : Nat) (p1 : Int32) (s0 : Nat) (s1 : Int32) : SimK B_gm_printMeasurement 38 [some (.ref p0), some (.int p1)] [.int s1, .ref s0] S v (K_gm_printMeasurement_38 N  S v p0 p1 s0 s1) (ρpi S) := by
  unfold K_gm_printMeasurement_38
  refine sim_grd fun h7 => ?_
  refine sc_pv (pc3 := 41) (cf_V (idx := 363) (ci := 6) [.int s1] m_gm_write (by decide) ⟨by decide, by decide⟩ (List.mem_of_getElem? (i := 2200) (by decide +kernel)) rfl (Nat.le_of_ble_eq_true rfl) h7 (by decide +kernel) (Nat.le_of_ble_eq_true rfl) rfl) (ok_gm_write s0 s1 S v) rfl (fun w8 => ?_)
  refine sim_seg [(.aload_n 0, 0, 0, 0), (.aload_n 0, 0, 0, 0), (.iload_n 1, 0, 0, 0), (.iconst 3, 0, 0, 3)] [] (q := 45) (L' := [some (.ref p0), some (.int p1)]) (st' := [.int (J 3), .int p1, .ref p0, .ref p0]) (v1 := w8) (by decide +kernel) rfl trivial ?_
  refine sim_grd fun h9 => ?_
  refine sc_ri (pc3 := 48) (cf_V (idx := 155) (ci := 6) [.int p1, .int (J 3)] m_gm_of (by decide) ⟨by decide, by decide⟩ (List.mem_of_getElem? (i := 1847) (by decide +kernel)) rfl (Nat.le_of_ble_eq_true rfl) h9 (by decide +kernel) (Nat.le_of_ble_eq_true rfl) rfl) (ok_gm_of p0 p1 (J 3) S w8) rfl (fun x10 => ?_)
  refine sc_pv (pc3 := 51) (cf_V (idx := 369) (ci := 6) [.int x10] m_gm_writeNumber (by decide) ⟨by decide, by decide⟩ (List.mem_of_getElem? (i := 2204) (by decide +kernel)) rfl (Nat.le_of_ble_eq_true rfl) h9 (by decide +kernel) (Nat.le_of_ble_eq_true rfl) rfl) (ok_gm_writeNumber N p0 x10 S w8) rfl (fun w11 => ?_)
  refine sim_seg [(.aload_n 0, 0, 0, 0), (.bipush 58, 0, 0, 58)] [] (q := 54) (L' := [some (.ref p0), some (.int p1)]) (st' := [.int (J 58), .ref p0]) (v1 := w11) (by decide +kernel) rfl trivial ?_
  refine sc_pv (pc3 := 57) (cf_V (idx := 363) (ci := 6) [.int (J 58)] m_gm_write (by decide) ⟨by decide, by decide⟩ (List.mem_of_getElem? (i := 2200) (by decide +kernel)) rfl (Nat.le_of_ble_eq_true rfl) h9 (by decide +kernel) (Nat.le_of_ble_eq_true rfl) rfl) (ok_gm_write p0 (J 58) S w11) rfl (fun w12 => ?_)
  refine sim_seg [(.aload_n 0, 0, 0, 0), (.aload_n 0, 0, 0, 0), (.iload_n 1, 0, 0, 0), (.iconst 4, 0, 0, 4)] [] (q := 61) (L' := [some (.ref p0), some (.int p1)]) (st' := [.int (J 4), .int p1, .ref p0, .ref p0]) (v1 := w12) (by decide +kernel) rfl trivial ?_
  refine sc_ri (pc3 := 64) (cf_V (idx := 155) (ci := 6) [.int p1, .int (J 4)] m_gm_of (by decide) ⟨by decide, by decide⟩ (List.mem_of_getElem? (i := 1847) (by decide +kernel)) rfl (Nat.le_of_ble_eq_true rfl) h9 (by decide +kernel) (Nat.le_of_ble_eq_true rfl) rfl) (ok_gm_of p0 p1 (J 4) S w12) rfl (fun x13 => ?_)
  refine sim_seg [(.iconst 1, 0, 0, 1), (.aload_n 0, 0, 0, 0), (.iload_n 1, 0, 0, 0), (.iconst 5, 0, 0, 5)] [] (q := 68) (L' := [some (.ref p0), some (.int p1)]) (st' := [.int (J 5), .int p1, .ref p0, .int (J 1), .int x13, .ref p0]) (v1 := w12) (by decide +kernel) rfl trivial ?_
  refine sc_ri (pc3 := 71) (cf_V (idx := 155) (ci := 6) [.int p1, .int (J 5)] m_gm_of (by decide) ⟨by decide, by decide⟩ (List.mem_of_getElem? (i := 1847) (by decide +kernel)) rfl (Nat.le_of_ble_eq_true rfl) h9 (by decide +kernel) (Nat.le_of_ble_eq_true rfl) rfl) (ok_gm_of p0 p1 (J 5) S w12) rfl (fun x14 => ?_)
  refine sc_ri (pc3 := 74) (cf_S (idx := 66) [.int (J 1), .int x14] m_ma_max ⟨by decide, by decide⟩ (List.mem_of_getElem? (i := 1917) (by decide +kernel)) rfl (Nat.le_of_ble_eq_true rfl) (by decide +kernel) (Nat.le_of_ble_eq_true rfl) rfl) (ok_ma_max (J 1) x14 S w12) rfl (fun x15 => ?_)
  refine sc_pv (pc3 := 77) (cf_V (idx := 366) (ci := 6) [.int x13, .int x15] m_gm_writePart (by decide) ⟨by decide, by decide⟩ (List.mem_of_getElem? (i := 2208) (by decide +kernel)) rfl (Nat.le_of_ble_eq_true rfl) h9 (by decide +kernel) (Nat.le_of_ble_eq_true rfl) rfl) (ok_gm_writePart N p0 x13 x15 S w12) rfl (fun w16 => ?_)
  refine sim_seg [(.aload_n 0, 0, 0, 0), (.getfield 360, 6, 29, 0)] [] (q := 81) (L' := [some (.ref p0), some (.int p1)]) (st' := [.int (gi w16 p0 29)]) (v1 := w16) (by decide +kernel) rfl ⟨h9, trivial⟩ ?_
  exact sim_iret (by decide +kernel) rfl rfl rfl
noncomputable def F_gm_printMeasurement (N : Nat) (a0 : Nat) (b1 : Int32) (S : shp) (v : vl) : Option (Int32 × vl) :=
  grd (kin S a0 = some (0, 6)) <| lt (si v a0 10 (J 0)) fun w2 => (F_gm_noMeasurement a0 b1 S w2).bind fun (x3, w4) => (if x3 = (J 0) then lt (si w4 a0 29 (J 0)) fun w5 => (F_gm_of a0 b1 (J 0) S w5).bind fun x6 => (if x6 = (J 1) then K_gm_printMeasurement_38 N  S w5 a0 b1 a0 (J 112) else K_gm_printMeasurement_38 N  S w5 a0 b1 a0 (J 103)) else some (((J 0), w4)))
theorem ok_gm_printMeasurement (N : Nat) (a0 : Nat) (b1 : Int32) (S : shp) (v : vl) : SimK B_gm_printMeasurement 0 (entB (bN B_gm_printMeasurement) [.ref a0, .int b1]) [] S v (F_gm_printMeasurement N a0 b1 S v) (ρpi S) := by
  show SimK B_gm_printMeasurement 0 [some (.ref a0), some (.int b1)] [] S v (F_gm_printMeasurement N a0 b1 S v) _
  unfold F_gm_printMeasurement
  refine sim_grd fun h1 => ?_
  refine sim_seg [(.aload_n 0, 0, 0, 0), (.iconst 0, 0, 0, 0), (.putfield 38, 6, 10, 0), (.aload_n 0, 0, 0, 0), (.iload_n 1, 0, 0, 0)] [] (q := 7) (L' := [some (.ref a0), some (.int b1)]) (st' := [.int b1, .ref a0]) (v1 := (si v a0 10 (J 0))) (by decide +kernel) rfl ⟨h1, trivial⟩ ?_
  refine sim_lt (x := (si v a0 10 (J 0))) ?_
  generalize (si v a0 10 (J 0)) = w2
  refine sc_pi (pc3 := 10) (cf_V (idx := 283) (ci := 6) [.int b1] m_gm_noMeasurement (by decide) ⟨by decide, by decide⟩ (List.mem_of_getElem? (i := 1843) (by decide +kernel)) rfl (Nat.le_of_ble_eq_true rfl) h1 (by decide +kernel) (Nat.le_of_ble_eq_true rfl) rfl) (ok_gm_noMeasurement a0 b1 S w2) rfl (fun x3 w4 => ?_)
  refine sim_eq0 (o := 5) (tg := 15) (f := 13) (by decide +kernel) rfl rfl (fun _ => ?_) (fun _ => ?_)
  · refine sim_seg [(.aload_n 0, 0, 0, 0), (.iconst 0, 0, 0, 0), (.putfield 360, 6, 29, 0), (.aload_n 0, 0, 0, 0), (.aload_n 0, 0, 0, 0), (.iload_n 1, 0, 0, 0), (.iconst 0, 0, 0, 0)] [] (q := 24) (L' := [some (.ref a0), some (.int b1)]) (st' := [.int (J 0), .int b1, .ref a0, .ref a0]) (v1 := (si w4 a0 29 (J 0))) (by decide +kernel) rfl ⟨h1, trivial⟩ ?_
    refine sim_lt (x := (si w4 a0 29 (J 0))) ?_
    generalize (si w4 a0 29 (J 0)) = w5
    refine sc_ri (pc3 := 27) (cf_V (idx := 155) (ci := 6) [.int b1, .int (J 0)] m_gm_of (by decide) ⟨by decide, by decide⟩ (List.mem_of_getElem? (i := 1847) (by decide +kernel)) rfl (Nat.le_of_ble_eq_true rfl) h1 (by decide +kernel) (Nat.le_of_ble_eq_true rfl) rfl) (ok_gm_of a0 b1 (J 0) S w5) rfl (fun x6 => ?_)
    refine sim_seg [(.iconst 1, 0, 0, 1)] [] (q := 28) (L' := [some (.ref a0), some (.int b1)]) (st' := [.int (J 1), .int x6, .ref a0]) (v1 := w5) (by decide +kernel) rfl trivial ?_
    refine sim_ne (o := 8) (tg := 36) (f := 31) (by decide +kernel) rfl rfl (fun _ => ?_) (fun _ => ?_)
    · refine sim_seg [(.bipush 112, 0, 0, 112), (.goto 5, 0, 0, 0)] [] (q := 38) (L' := [some (.ref a0), some (.int b1)]) (st' := [.int (J 112), .ref a0]) (v1 := w5) (by decide +kernel) rfl trivial ?_
      exact sK_gm_printMeasurement_38 N S w5 a0 b1 a0 (J 112)
    · refine sim_seg [(.bipush 103, 0, 0, 103)] [] (q := 38) (L' := [some (.ref a0), some (.int b1)]) (st' := [.int (J 103), .ref a0]) (v1 := w5) (by decide +kernel) rfl trivial ?_
      exact sK_gm_printMeasurement_38 N S w5 a0 b1 a0 (J 103)
  · refine sim_seg [(.iconst 0, 0, 0, 0)] [] (q := 14) (L' := [some (.ref a0), some (.int b1)]) (st' := [.int (J 0)]) (v1 := w4) (by decide +kernel) rfl trivial ?_
    exact sim_iret (by decide +kernel) rfl rfl rfl
def B_gm_printSettings : bd := (⟨"GateCounterModel", "printSettings", "()I"⟩, prog_8_method_129_code, 2, (some .int), [], 6, 3)
theorem m_gm_printSettings : mV B_gm_printSettings 6 0 := ⟨⟨⟨by decide +kernel, Or.inl rfl⟩, rfl, (List.mem_of_getElem? (i := 2215) (by decide +kernel)), by decide +kernel, (List.mem_of_getElem? (i := 104) (by decide +kernel)), ⟨by decide, by decide⟩, by decide⟩, rfl, (by unfold nar; decide +kernel), (List.mem_of_getElem? (i := 2213) (by decide +kernel)), rfl, (List.mem_of_getElem? (i := 2214) (by decide +kernel))⟩
noncomputable def Y_gm_printSettings_12 (N : Nat)  (i12 : vl → Nat → Int32 → Option (Int32 × vl)) (S : shp) (v : vl) (p0 : Nat) (p1 : Int32) : Option (Int32 × vl) :=
  (if (J 7) < p1 then grd (kin S p0 = some (0, 6)) <| some (((gi v p0 29), v)) else (if (J 1) < p1 then grd (kin S p0 = some (0, 6)) <| (F_gm_write p0 (J 44) S v).bind fun w5 => (gr S p0 0).bind fun r6 => grd (kin S r6 = some (1, 199)) <| grd (vp_in p1 (alen S r6)) <| (F_gm_writeNumber N p0 (gi w5 r6 (Int32.toNatClampNeg p1)) S w5).bind fun w10 => i12 w10 p0 (p1 + (J 1)) else grd (kin S p0 = some (0, 6)) <| (gr S p0 0).bind fun r12 => grd (kin S r12 = some (1, 199)) <| grd (vp_in p1 (alen S r12)) <| (F_gm_writeNumber N p0 (gi v r12 (Int32.toNatClampNeg p1)) S v).bind fun w16 => i12 w16 p0 (p1 + (J 1))))
noncomputable def K_gm_printSettings_12 (N : Nat)  (n : Nat) (S : shp) : vl → Nat → Int32 → Option (Int32 × vl) :=
  Nat.rec (motive := fun _ => vl → Nat → Int32 → Option (Int32 × vl)) (fun _ _ _ => none) (fun _ i => Y_gm_printSettings_12 N  i S) n
theorem sY_gm_printSettings_12 (N : Nat)  (i12 : vl → Nat → Int32 → Option (Int32 × vl)) (S : shp)  (j12 : ∀ (v : vl) (p0 : Nat) (p1 : Int32), SimK B_gm_printSettings 12 [some (.ref p0), some (.int p1)] [] S v (i12 v p0 p1) (ρpi S)) (v : vl) (p0 : Nat) (p1 : Int32) : SimK B_gm_printSettings 12 [some (.ref p0), some (.int p1)] [] S v (Y_gm_printSettings_12 N  i12 S v p0 p1) (ρpi S) := by
  unfold Y_gm_printSettings_12
  refine sim_seg [(.iload_n 1, 0, 0, 0), (.bipush 7, 0, 0, 7)] [] (q := 15) (L' := [some (.ref p0), some (.int p1)]) (st' := [.int (J 7), .int p1]) (v1 := v) (by decide +kernel) rfl trivial ?_
  refine sim_gt (o := 30) (tg := 45) (f := 18) (by decide +kernel) rfl rfl (fun _ => ?_) (fun _ => ?_)
  · refine sim_grd fun h3 => ?_
    refine sim_seg [(.aload_n 0, 0, 0, 0), (.getfield 360, 6, 29, 0)] [] (q := 49) (L' := [some (.ref p0), some (.int p1)]) (st' := [.int (gi v p0 29)]) (v1 := v) (by decide +kernel) rfl ⟨h3, trivial⟩ ?_
    exact sim_iret (by decide +kernel) rfl rfl rfl
  · refine sim_seg [(.iload_n 1, 0, 0, 0), (.iconst 1, 0, 0, 1)] [] (q := 20) (L' := [some (.ref p0), some (.int p1)]) (st' := [.int (J 1), .int p1]) (v1 := v) (by decide +kernel) rfl trivial ?_
    refine sim_le (o := 9) (tg := 29) (f := 23) (by decide +kernel) rfl rfl (fun _ => ?_) (fun _ => ?_)
    · refine sim_seg [(.aload_n 0, 0, 0, 0), (.bipush 44, 0, 0, 44)] [] (q := 26) (L' := [some (.ref p0), some (.int p1)]) (st' := [.int (J 44), .ref p0]) (v1 := v) (by decide +kernel) rfl trivial ?_
      refine sim_grd fun h4 => ?_
      refine sc_pv (pc3 := 29) (cf_V (idx := 363) (ci := 6) [.int (J 44)] m_gm_write (by decide) ⟨by decide, by decide⟩ (List.mem_of_getElem? (i := 2200) (by decide +kernel)) rfl (Nat.le_of_ble_eq_true rfl) h4 (by decide +kernel) (Nat.le_of_ble_eq_true rfl) rfl) (ok_gm_write p0 (J 44) S v) rfl (fun w5 => ?_)
      refine sim_bind fun r6 h7 => ?_
      refine sim_grd fun h8 => ?_
      refine sim_grd fun h9 => ?_
      refine sim_seg [(.aload_n 0, 0, 0, 0), (.aload_n 0, 0, 0, 0), (.getfield 7, 6, 0, 0), (.iload_n 1, 0, 0, 0), (.iaload, 0, 0, 0)] [r6] (q := 36) (L' := [some (.ref p0), some (.int p1)]) (st' := [.int (gi w5 r6 (Int32.toNatClampNeg p1)), .ref p0]) (v1 := w5) (by decide +kernel) rfl ⟨⟨h4, h7⟩, ⟨(Or.inl (kin_alen h8)), h9⟩, trivial⟩ ?_
      refine sc_pv (pc3 := 39) (cf_V (idx := 369) (ci := 6) [.int (gi w5 r6 (Int32.toNatClampNeg p1))] m_gm_writeNumber (by decide) ⟨by decide, by decide⟩ (List.mem_of_getElem? (i := 2204) (by decide +kernel)) rfl (Nat.le_of_ble_eq_true rfl) h4 (by decide +kernel) (Nat.le_of_ble_eq_true rfl) rfl) (ok_gm_writeNumber N p0 (gi w5 r6 (Int32.toNatClampNeg p1)) S w5) rfl (fun w10 => ?_)
      refine sim_seg [(.iinc 1 1, 0, 0, 1)] [] (q := 42) (L' := [some (.ref p0), some (.int (p1 + (J 1)))]) (st' := []) (v1 := w10) (by decide +kernel) rfl trivial ?_
      refine sim_seg [(.goto (-30), 0, 0, 0)] [] (q := 12) (L' := [some (.ref p0), some (.int (p1 + (J 1)))]) (st' := []) (v1 := w10) (by decide +kernel) rfl trivial ?_
      exact j12 w10 p0 (p1 + (J 1))
    · refine sim_grd fun h11 => ?_
      refine sim_bind fun r12 h13 => ?_
      refine sim_grd fun h14 => ?_
      refine sim_grd fun h15 => ?_
      refine sim_seg [(.aload_n 0, 0, 0, 0), (.aload_n 0, 0, 0, 0), (.getfield 7, 6, 0, 0), (.iload_n 1, 0, 0, 0), (.iaload, 0, 0, 0)] [r12] (q := 36) (L' := [some (.ref p0), some (.int p1)]) (st' := [.int (gi v r12 (Int32.toNatClampNeg p1)), .ref p0]) (v1 := v) (by decide +kernel) rfl ⟨⟨h11, h13⟩, ⟨(Or.inl (kin_alen h14)), h15⟩, trivial⟩ ?_
      refine sc_pv (pc3 := 39) (cf_V (idx := 369) (ci := 6) [.int (gi v r12 (Int32.toNatClampNeg p1))] m_gm_writeNumber (by decide) ⟨by decide, by decide⟩ (List.mem_of_getElem? (i := 2204) (by decide +kernel)) rfl (Nat.le_of_ble_eq_true rfl) h11 (by decide +kernel) (Nat.le_of_ble_eq_true rfl) rfl) (ok_gm_writeNumber N p0 (gi v r12 (Int32.toNatClampNeg p1)) S v) rfl (fun w16 => ?_)
      refine sim_seg [(.iinc 1 1, 0, 0, 1)] [] (q := 42) (L' := [some (.ref p0), some (.int (p1 + (J 1)))]) (st' := []) (v1 := w16) (by decide +kernel) rfl trivial ?_
      refine sim_seg [(.goto (-30), 0, 0, 0)] [] (q := 12) (L' := [some (.ref p0), some (.int (p1 + (J 1)))]) (st' := []) (v1 := w16) (by decide +kernel) rfl trivial ?_
      exact j12 w16 p0 (p1 + (J 1))
theorem sR_gm_printSettings_12 (N : Nat)  (S : shp)  (n : Nat) : ∀ (v : vl) (p0 : Nat) (p1 : Int32), SimK B_gm_printSettings 12 [some (.ref p0), some (.int p1)] [] S v (K_gm_printSettings_12 N  n S v p0 p1) (ρpi S) := by
  induction n with
  | zero => intro v p0 p1; exact sim_none
  | succ k ih => intro v p0 p1; exact sY_gm_printSettings_12 N   _ S  ih v p0 p1
theorem sK_gm_printSettings_12 (N : Nat)  (n : Nat) (S : shp) (v : vl) (p0 : Nat) (p1 : Int32) : SimK B_gm_printSettings 12 [some (.ref p0), some (.int p1)] [] S v (K_gm_printSettings_12 N  n S v p0 p1) (ρpi S) := sR_gm_printSettings_12 N   S  n  v p0 p1
noncomputable def F_gm_printSettings (N : Nat) (a0 : Nat) (S : shp) (v : vl) : Option (Int32 × vl) :=
  grd (kin S a0 = some (0, 6)) <| lt (si (si v a0 10 (J 0)) a0 29 (J 0)) fun w2 => K_gm_printSettings_12 N  N S w2 a0 (J 1)
theorem ok_gm_printSettings (N : Nat) (a0 : Nat) (S : shp) (v : vl) : SimK B_gm_printSettings 0 (entB (bN B_gm_printSettings) [.ref a0]) [] S v (F_gm_printSettings N a0 S v) (ρpi S) := by
  show SimK B_gm_printSettings 0 [some (.ref a0), none] [] S v (F_gm_printSettings N a0 S v) _
  unfold F_gm_printSettings
  refine sim_grd fun h1 => ?_
  refine sim_seg [(.aload_n 0, 0, 0, 0), (.iconst 0, 0, 0, 0), (.putfield 38, 6, 10, 0), (.aload_n 0, 0, 0, 0), (.iconst 0, 0, 0, 0), (.putfield 360, 6, 29, 0), (.iconst 1, 0, 0, 1), (.istore_n 1, 0, 0, 0)] [] (q := 12) (L' := [some (.ref a0), some (.int (J 1))]) (st' := []) (v1 := (si (si v a0 10 (J 0)) a0 29 (J 0))) (by decide +kernel) rfl ⟨h1, h1, trivial⟩ ?_
  refine sim_lt (x := (si (si v a0 10 (J 0)) a0 29 (J 0))) ?_
  generalize (si (si v a0 10 (J 0)) a0 29 (J 0)) = w2
  exact sK_gm_printSettings_12 N N S w2 a0 (J 1)
def B_gm_printSignal : bd := (⟨"GateCounterModel", "printSignal", "()I"⟩, prog_8_method_130_code, 2, (some .int), [], 6, 3)
theorem m_gm_printSignal : mV B_gm_printSignal 6 0 := ⟨⟨⟨by decide +kernel, Or.inl rfl⟩, rfl, (List.mem_of_getElem? (i := 2219) (by decide +kernel)), by decide +kernel, (List.mem_of_getElem? (i := 104) (by decide +kernel)), ⟨by decide, by decide⟩, by decide⟩, rfl, (by unfold nar; decide +kernel), (List.mem_of_getElem? (i := 2217) (by decide +kernel)), rfl, (List.mem_of_getElem? (i := 2218) (by decide +kernel))⟩
noncomputable def K_gm_printSignal_33 (N : Nat) (i12 : vl → Nat → Int32 → Option (Int32 × vl)) (S : shp) (v : vl) (p0 : Nat) (p1 : Int32) : Option (Int32 × vl) :=
  grd (kin S p0 = some (0, 6)) <| (F_gm_segmentTime p0 p1 S v).bind fun x9 => (F_gm_writeNumber N p0 x9 S v).bind fun w10 => (F_gm_write p0 (J 47) S w10).bind fun w11 => (gr S p0 0).bind fun r12 => grd (kin S r12 = some (1, 199)) <| grd (vp_in (((J 23) + ((J 2) * p1)) + (J 1)) (alen S r12)) <| lt (gi w11 r12 (Int32.toNatClampNeg (((J 23) + ((J 2) * p1)) + (J 1)))) fun x16 => (F_gm_writeNumber N p0 x16 S w11).bind fun w17 => (if p1 < (gi w17 r12 20) then (F_gm_write p0 (J 42) S w17).bind fun w18 => i12 w18 p0 (p1 + (J 1)) else i12 w17 p0 (p1 + (J 1)))
theorem sK_gm_printSignal_330 (N : Nat) (i12 : vl → Nat → Int32 → Option (Int32 × vl)) (S : shp) (j12 : ∀ (v : vl) (p0 : Nat) (p1 : Int32), SimK B_gm_printSignal 12 [some (.ref p0), some (.int p1)] [] S v (i12 v p0 p1) (ρpi S)) (v : vl) (p0 : Nat) (p1 : Int32) : SimK B_gm_printSignal 33 [some (.ref p0), some (.int p1)] [] S v (K_gm_printSignal_33 N i12 S v p0 p1) (ρpi S) := by
  unfold K_gm_printSignal_33
  refine sim_seg [(.aload_n 0, 0, 0, 0), (.aload_n 0, 0, 0, 0), (.iload_n 1, 0, 0, 0)] [] (q := 36) (L' := [some (.ref p0), some (.int p1)]) (st' := [.int p1, .ref p0, .ref p0]) (v1 := v) (by decide +kernel) rfl trivial ?_
  refine sim_grd fun h8 => ?_
  refine sc_ri (pc3 := 39) (cf_V (idx := 56) (ci := 6) [.int p1] m_gm_segmentTime (by decide) ⟨by decide, by decide⟩ (List.mem_of_getElem? (i := 1803) (by decide +kernel)) rfl (Nat.le_of_ble_eq_true rfl) h8 (by decide +kernel) (Nat.le_of_ble_eq_true rfl) rfl) (ok_gm_segmentTime p0 p1 S v) rfl (fun x9 => ?_)
  refine sc_pv (pc3 := 42) (cf_V (idx := 369) (ci := 6) [.int x9] m_gm_writeNumber (by decide) ⟨by decide, by decide⟩ (List.mem_of_getElem? (i := 2204) (by decide +kernel)) rfl (Nat.le_of_ble_eq_true rfl) h8 (by decide +kernel) (Nat.le_of_ble_eq_true rfl) rfl) (ok_gm_writeNumber N p0 x9 S v) rfl (fun w10 => ?_)
  refine sim_seg [(.aload_n 0, 0, 0, 0), (.bipush 47, 0, 0, 47)] [] (q := 45) (L' := [some (.ref p0), some (.int p1)]) (st' := [.int (J 47), .ref p0]) (v1 := w10) (by decide +kernel) rfl trivial ?_
  refine sc_pv (pc3 := 48) (cf_V (idx := 363) (ci := 6) [.int (J 47)] m_gm_write (by decide) ⟨by decide, by decide⟩ (List.mem_of_getElem? (i := 2200) (by decide +kernel)) rfl (Nat.le_of_ble_eq_true rfl) h8 (by decide +kernel) (Nat.le_of_ble_eq_true rfl) rfl) (ok_gm_write p0 (J 47) S w10) rfl (fun w11 => ?_)
  refine sim_bind fun r12 h13 => ?_
  refine sim_grd fun h14 => ?_
  refine sim_grd fun h15 => ?_
  refine sim_seg [(.aload_n 0, 0, 0, 0), (.aload_n 0, 0, 0, 0), (.getfield 7, 6, 0, 0), (.bipush 23, 0, 0, 23), (.iconst 2, 0, 0, 2), (.iload_n 1, 0, 0, 0), (.imul, 0, 0, 0), (.iadd, 0, 0, 0), (.iconst 1, 0, 0, 1), (.iadd, 0, 0, 0), (.iaload, 0, 0, 0)] [r12] (q := 62) (L' := [some (.ref p0), some (.int p1)]) (st' := [.int (gi w11 r12 (Int32.toNatClampNeg (((J 23) + ((J 2) * p1)) + (J 1)))), .ref p0]) (v1 := w11) (by decide +kernel) rfl ⟨⟨h8, h13⟩, ⟨(Or.inl (kin_alen h14)), h15⟩, trivial⟩ ?_
  refine sim_nm (gi w11 r12 (Int32.toNatClampNeg (((J 23) + ((J 2) * p1)) + (J 1)))) (fun x16 => [some (.ref p0), some (.int p1)]) (fun x16 => [.int x16, .ref p0]) (fun x16 => ?_) rfl rfl
  refine sc_pv (pc3 := 65) (cf_V (idx := 369) (ci := 6) [.int x16] m_gm_writeNumber (by decide) ⟨by decide, by decide⟩ (List.mem_of_getElem? (i := 2204) (by decide +kernel)) rfl (Nat.le_of_ble_eq_true rfl) h8 (by decide +kernel) (Nat.le_of_ble_eq_true rfl) rfl) (ok_gm_writeNumber N p0 x16 S w11) rfl (fun w17 => ?_)
  refine sim_seg [(.iload_n 1, 0, 0, 0), (.aload_n 0, 0, 0, 0), (.getfield 7, 6, 0, 0), (.bipush 20, 0, 0, 20), (.iaload, 0, 0, 0)] [r12] (q := 73) (L' := [some (.ref p0), some (.int p1)]) (st' := [.int (gi w17 r12 20), .int p1]) (v1 := w17) (by decide +kernel) rfl ⟨⟨h8, h13⟩, ⟨(Or.inl (kin_alen h14)), (vin_J h14 (by unfold vp_in; decide))⟩, trivial⟩ ?_
  refine sim_ge (o := 9) (tg := 82) (f := 76) (by decide +kernel) rfl rfl (fun _ => ?_) (fun _ => ?_)
  · refine sim_seg [(.aload_n 0, 0, 0, 0), (.bipush 42, 0, 0, 42)] [] (q := 79) (L' := [some (.ref p0), some (.int p1)]) (st' := [.int (J 42), .ref p0]) (v1 := w17) (by decide +kernel) rfl trivial ?_
    refine sc_pv (pc3 := 82) (cf_V (idx := 363) (ci := 6) [.int (J 42)] m_gm_write (by decide) ⟨by decide, by decide⟩ (List.mem_of_getElem? (i := 2200) (by decide +kernel)) rfl (Nat.le_of_ble_eq_true rfl) h8 (by decide +kernel) (Nat.le_of_ble_eq_true rfl) rfl) (ok_gm_write p0 (J 42) S w17) rfl (fun w18 => ?_)
    refine sim_seg [(.iinc 1 1, 0, 0, 1)] [] (q := 85) (L' := [some (.ref p0), some (.int (p1 + (J 1)))]) (st' := []) (v1 := w18) (by decide +kernel) rfl trivial ?_
    refine sim_seg [(.goto (-73), 0, 0, 0)] [] (q := 12) (L' := [some (.ref p0), some (.int (p1 + (J 1)))]) (st' := []) (v1 := w18) (by decide +kernel) rfl trivial ?_
    exact j12 w18 p0 (p1 + (J 1))
  · refine sim_seg [(.iinc 1 1, 0, 0, 1)] [] (q := 85) (L' := [some (.ref p0), some (.int (p1 + (J 1)))]) (st' := []) (v1 := w17) (by decide +kernel) rfl trivial ?_
    refine sim_seg [(.goto (-73), 0, 0, 0)] [] (q := 12) (L' := [some (.ref p0), some (.int (p1 + (J 1)))]) (st' := []) (v1 := w17) (by decide +kernel) rfl trivial ?_
    exact j12 w17 p0 (p1 + (J 1))
theorem sK_gm_printSignal_33 (N : Nat) (i12 : vl → Nat → Int32 → Option (Int32 × vl)) {S : shp} (j12 : ∀ (v : vl) (p0 : Nat) (p1 : Int32), SimK B_gm_printSignal 12 [some (.ref p0), some (.int p1)] [] S v (i12 v p0 p1) (ρpi S)) (S1 : shp) (v : vl) (p0 : Nat) (p1 : Int32) : SimK B_gm_printSignal 33 [some (.ref p0), some (.int p1)] [] S v (K_gm_printSignal_33 N i12 S v p0 p1) (ρpi S) := sK_gm_printSignal_330 N  i12 S j12  v p0 p1
noncomputable def Y_gm_printSignal_12 (N : Nat)  (i12 : vl → Nat → Int32 → Option (Int32 × vl)) (S : shp) (v : vl) (p0 : Nat) (p1 : Int32) : Option (Int32 × vl) :=
  grd (kin S p0 = some (0, 6)) <| (gr S p0 0).bind fun r4 => grd (kin S r4 = some (1, 199)) <| (if p1 < (gi v r4 19) then (if (J 0) < p1 then (F_gm_write p0 (J 32) S v).bind fun w7 => K_gm_printSignal_33 N i12 S w7 p0 p1 else K_gm_printSignal_33 N i12 S v p0 p1) else (if (gi v r4 19) = (J 0) then (F_gm_write p0 (J 45) S v).bind fun w19 => some (((gi w19 p0 29), w19)) else some (((gi v p0 29), v))))
noncomputable def K_gm_printSignal_12 (N : Nat)  (n : Nat) (S : shp) : vl → Nat → Int32 → Option (Int32 × vl) :=
  Nat.rec (motive := fun _ => vl → Nat → Int32 → Option (Int32 × vl)) (fun _ _ _ => none) (fun _ i => Y_gm_printSignal_12 N  i S) n
theorem sY_gm_printSignal_12 (N : Nat)  (i12 : vl → Nat → Int32 → Option (Int32 × vl)) (S : shp)  (j12 : ∀ (v : vl) (p0 : Nat) (p1 : Int32), SimK B_gm_printSignal 12 [some (.ref p0), some (.int p1)] [] S v (i12 v p0 p1) (ρpi S)) (v : vl) (p0 : Nat) (p1 : Int32) : SimK B_gm_printSignal 12 [some (.ref p0), some (.int p1)] [] S v (Y_gm_printSignal_12 N  i12 S v p0 p1) (ρpi S) := by
  unfold Y_gm_printSignal_12
  refine sim_grd fun h3 => ?_
  refine sim_bind fun r4 h5 => ?_
  refine sim_grd fun h6 => ?_
  refine sim_seg [(.iload_n 1, 0, 0, 0), (.aload_n 0, 0, 0, 0), (.getfield 7, 6, 0, 0), (.bipush 19, 0, 0, 19), (.iaload, 0, 0, 0)] [r4] (q := 20) (L' := [some (.ref p0), some (.int p1)]) (st' := [.int (gi v r4 19), .int p1]) (v1 := v) (by decide +kernel) rfl ⟨⟨h3, h5⟩, ⟨(Or.inl (kin_alen h6)), (vin_J h6 (by unfold vp_in; decide))⟩, trivial⟩ ?_
  refine sim_ge (o := 68) (tg := 88) (f := 23) (by decide +kernel) rfl rfl (fun _ => ?_) (fun _ => ?_)
  · refine sim_seg [(.iload_n 1, 0, 0, 0)] [] (q := 24) (L' := [some (.ref p0), some (.int p1)]) (st' := [.int p1]) (v1 := v) (by decide +kernel) rfl trivial ?_
    refine sim_le0 (o := 9) (tg := 33) (f := 27) (by decide +kernel) rfl rfl (fun _ => ?_) (fun _ => ?_)
    · refine sim_seg [(.aload_n 0, 0, 0, 0), (.bipush 32, 0, 0, 32)] [] (q := 30) (L' := [some (.ref p0), some (.int p1)]) (st' := [.int (J 32), .ref p0]) (v1 := v) (by decide +kernel) rfl trivial ?_
      refine sc_pv (pc3 := 33) (cf_V (idx := 363) (ci := 6) [.int (J 32)] m_gm_write (by decide) ⟨by decide, by decide⟩ (List.mem_of_getElem? (i := 2200) (by decide +kernel)) rfl (Nat.le_of_ble_eq_true rfl) h3 (by decide +kernel) (Nat.le_of_ble_eq_true rfl) rfl) (ok_gm_write p0 (J 32) S v) rfl (fun w7 => ?_)
      exact sK_gm_printSignal_33 N i12 j12 S w7 p0 p1
    · exact sK_gm_printSignal_33 N i12 j12 S v p0 p1
  · refine sim_seg [(.aload_n 0, 0, 0, 0), (.getfield 7, 6, 0, 0), (.bipush 19, 0, 0, 19), (.iaload, 0, 0, 0)] [r4] (q := 95) (L' := [some (.ref p0), some (.int p1)]) (st' := [.int (gi v r4 19)]) (v1 := v) (by decide +kernel) rfl ⟨⟨h3, h5⟩, ⟨(Or.inl (kin_alen h6)), (vin_J h6 (by unfold vp_in; decide))⟩, trivial⟩ ?_
    refine sim_ne0 (o := 9) (tg := 104) (f := 98) (by decide +kernel) rfl rfl (fun _ => ?_) (fun _ => ?_)
    · refine sim_seg [(.aload_n 0, 0, 0, 0), (.bipush 45, 0, 0, 45)] [] (q := 101) (L' := [some (.ref p0), some (.int p1)]) (st' := [.int (J 45), .ref p0]) (v1 := v) (by decide +kernel) rfl trivial ?_
      refine sc_pv (pc3 := 104) (cf_V (idx := 363) (ci := 6) [.int (J 45)] m_gm_write (by decide) ⟨by decide, by decide⟩ (List.mem_of_getElem? (i := 2200) (by decide +kernel)) rfl (Nat.le_of_ble_eq_true rfl) h3 (by decide +kernel) (Nat.le_of_ble_eq_true rfl) rfl) (ok_gm_write p0 (J 45) S v) rfl (fun w19 => ?_)
      refine sim_seg [(.aload_n 0, 0, 0, 0), (.getfield 360, 6, 29, 0)] [] (q := 108) (L' := [some (.ref p0), some (.int p1)]) (st' := [.int (gi w19 p0 29)]) (v1 := w19) (by decide +kernel) rfl ⟨h3, trivial⟩ ?_
      exact sim_iret (by decide +kernel) rfl rfl rfl
    · refine sim_seg [(.aload_n 0, 0, 0, 0), (.getfield 360, 6, 29, 0)] [] (q := 108) (L' := [some (.ref p0), some (.int p1)]) (st' := [.int (gi v p0 29)]) (v1 := v) (by decide +kernel) rfl ⟨h3, trivial⟩ ?_
      exact sim_iret (by decide +kernel) rfl rfl rfl
theorem sR_gm_printSignal_12 (N : Nat)  (S : shp)  (n : Nat) : ∀ (v : vl) (p0 : Nat) (p1 : Int32), SimK B_gm_printSignal 12 [some (.ref p0), some (.int p1)] [] S v (K_gm_printSignal_12 N  n S v p0 p1) (ρpi S) := by
  induction n with
  | zero => intro v p0 p1; exact sim_none
  | succ k ih => intro v p0 p1; exact sY_gm_printSignal_12 N   _ S  ih v p0 p1
theorem sK_gm_printSignal_12 (N : Nat)  (n : Nat) (S : shp) (v : vl) (p0 : Nat) (p1 : Int32) : SimK B_gm_printSignal 12 [some (.ref p0), some (.int p1)] [] S v (K_gm_printSignal_12 N  n S v p0 p1) (ρpi S) := sR_gm_printSignal_12 N   S  n  v p0 p1
noncomputable def F_gm_printSignal (N : Nat) (a0 : Nat) (S : shp) (v : vl) : Option (Int32 × vl) :=
  grd (kin S a0 = some (0, 6)) <| lt (si (si v a0 10 (J 0)) a0 29 (J 0)) fun w2 => K_gm_printSignal_12 N  N S w2 a0 (J 0)
theorem ok_gm_printSignal (N : Nat) (a0 : Nat) (S : shp) (v : vl) : SimK B_gm_printSignal 0 (entB (bN B_gm_printSignal) [.ref a0]) [] S v (F_gm_printSignal N a0 S v) (ρpi S) := by
  show SimK B_gm_printSignal 0 [some (.ref a0), none] [] S v (F_gm_printSignal N a0 S v) _
  unfold F_gm_printSignal
  refine sim_grd fun h1 => ?_
  refine sim_seg [(.aload_n 0, 0, 0, 0), (.iconst 0, 0, 0, 0), (.putfield 38, 6, 10, 0), (.aload_n 0, 0, 0, 0), (.iconst 0, 0, 0, 0), (.putfield 360, 6, 29, 0), (.iconst 0, 0, 0, 0), (.istore_n 1, 0, 0, 0)] [] (q := 12) (L' := [some (.ref a0), some (.int (J 0))]) (st' := []) (v1 := (si (si v a0 10 (J 0)) a0 29 (J 0))) (by decide +kernel) rfl ⟨h1, h1, trivial⟩ ?_
  refine sim_lt (x := (si (si v a0 10 (J 0)) a0 29 (J 0))) ?_
  generalize (si (si v a0 10 (J 0)) a0 29 (J 0)) = w2
  exact sK_gm_printSignal_12 N N S w2 a0 (J 0)
def B_gm_outputByte : bd := (⟨"GateCounterModel", "outputByte", "(I)I"⟩, prog_8_method_131_code, 2, (some .int), [], 6, 1)
theorem m_gm_outputByte : mV B_gm_outputByte 6 1 := ⟨⟨⟨by decide +kernel, Or.inl rfl⟩, rfl, (List.mem_of_getElem? (i := 2223) (by decide +kernel)), by decide +kernel, (List.mem_of_getElem? (i := 104) (by decide +kernel)), ⟨by decide, by decide⟩, by decide⟩, rfl, (by unfold nar; decide +kernel), (List.mem_of_getElem? (i := 2221) (by decide +kernel)), rfl, (List.mem_of_getElem? (i := 2222) (by decide +kernel))⟩
noncomputable def F_gm_outputByte (a0 : Nat) (b1 : Int32) (S : shp) (v : vl) : Option (Int32 × vl) :=
  grd (kin S a0 = some (0, 6)) <| lt (si v a0 10 (J 0)) fun w2 => (F_gm_inRange b1 (J 0) ((gi w2 a0 29) - (J 1)) S w2).bind fun x3 => (if x3 = (J 0) then some (((J (-1)), w2)) else (gr S a0 28).bind fun r4 => grd (kin S r4 = some (1, 300)) <| grd (vp_in b1 (alen S r4)) <| some (((gi w2 r4 (Int32.toNatClampNeg b1)), w2)))
theorem ok_gm_outputByte (a0 : Nat) (b1 : Int32) (S : shp) (v : vl) : SimK B_gm_outputByte 0 (entB (bN B_gm_outputByte) [.ref a0, .int b1]) [] S v (F_gm_outputByte a0 b1 S v) (ρpi S) := by
  show SimK B_gm_outputByte 0 [some (.ref a0), some (.int b1)] [] S v (F_gm_outputByte a0 b1 S v) _
  unfold F_gm_outputByte
  refine sim_grd fun h1 => ?_
  refine sim_seg [(.aload_n 0, 0, 0, 0), (.iconst 0, 0, 0, 0), (.putfield 38, 6, 10, 0), (.iload_n 1, 0, 0, 0), (.iconst 0, 0, 0, 0), (.aload_n 0, 0, 0, 0)] [] (q := 8) (L' := [some (.ref a0), some (.int b1)]) (st' := [.ref a0, .int (J 0), .int b1]) (v1 := (si v a0 10 (J 0))) (by decide +kernel) rfl ⟨h1, trivial⟩ ?_
  refine sim_lt (x := (si v a0 10 (J 0))) ?_
  generalize (si v a0 10 (J 0)) = w2
  refine sim_seg [(.getfield 360, 6, 29, 0), (.iconst 1, 0, 0, 1), (.isub, 0, 0, 0)] [] (q := 13) (L' := [some (.ref a0), some (.int b1)]) (st' := [.int ((gi w2 a0 29) - (J 1)), .int (J 0), .int b1]) (v1 := w2) (by decide +kernel) rfl ⟨h1, trivial⟩ ?_
  refine sc_ri (pc3 := 16) (cf_S (idx := 41) [.int b1, .int (J 0), .int ((gi w2 a0 29) - (J 1))] m_gm_inRange ⟨by decide, by decide⟩ (List.mem_of_getElem? (i := 1712) (by decide +kernel)) rfl (Nat.le_of_ble_eq_true rfl) (by decide +kernel) (Nat.le_of_ble_eq_true rfl) rfl) (ok_gm_inRange b1 (J 0) ((gi w2 a0 29) - (J 1)) S w2) rfl (fun x3 => ?_)
  refine sim_eq0 (o := 12) (tg := 28) (f := 19) (by decide +kernel) rfl rfl (fun _ => ?_) (fun _ => ?_)
  · refine sim_seg [(.iconst (-1), 0, 0, (-1))] [] (q := 29) (L' := [some (.ref a0), some (.int b1)]) (st' := [.int (J (-1))]) (v1 := w2) (by decide +kernel) rfl trivial ?_
    exact sim_iret (by decide +kernel) rfl rfl rfl
  · refine sim_bind fun r4 h5 => ?_
    refine sim_grd fun h6 => ?_
    refine sim_grd fun h7 => ?_
    refine sim_seg [(.aload_n 0, 0, 0, 0), (.getfield 32, 6, 28, 0), (.iload_n 1, 0, 0, 0), (.iaload, 0, 0, 0), (.goto 4, 0, 0, 0)] [r4] (q := 29) (L' := [some (.ref a0), some (.int b1)]) (st' := [.int (gi w2 r4 (Int32.toNatClampNeg b1))]) (v1 := w2) (by decide +kernel) rfl ⟨⟨h1, h5⟩, ⟨(Or.inl (kin_alen h6)), h7⟩, trivial⟩ ?_
    exact sim_iret (by decide +kernel) rfl rfl rfl
def B_gm_saveState : bd := (⟨"GateCounterModel", "saveState", "()I"⟩, prog_8_method_132_code, 1, (some .int), [], 6, 1)
theorem m_gm_saveState : mV B_gm_saveState 6 0 := ⟨⟨⟨by decide +kernel, Or.inl rfl⟩, rfl, (List.mem_of_getElem? (i := 2227) (by decide +kernel)), by decide +kernel, (List.mem_of_getElem? (i := 104) (by decide +kernel)), ⟨by decide, by decide⟩, by decide⟩, rfl, (by unfold nar; decide +kernel), (List.mem_of_getElem? (i := 2225) (by decide +kernel)), rfl, (List.mem_of_getElem? (i := 2226) (by decide +kernel))⟩
noncomputable def F_gm_saveState (N : Nat) (a0 : Nat) (S : shp) (v : vl) : Option (Int32 × vl) :=
  grd (kin S a0 = some (0, 6)) <| lt (si v a0 10 (J 0)) fun w2 => (gr S a0 0).bind fun r3 => (gr S a0 3).bind fun r5 => (F_gm_copies N r3 (J 0) r5 (J 0) (J 199) S w2).bind fun w7 => lt (si w7 a0 6 (J 1)) fun w8 => grd (kin S r3 = some (1, 199)) <| some (((gi w8 r3 0), w8))
theorem ok_gm_saveState (N : Nat) (a0 : Nat) (S : shp) (v : vl) : SimK B_gm_saveState 0 (entB (bN B_gm_saveState) [.ref a0]) [] S v (F_gm_saveState N a0 S v) (ρpi S) := by
  show SimK B_gm_saveState 0 [some (.ref a0)] [] S v (F_gm_saveState N a0 S v) _
  unfold F_gm_saveState
  refine sim_grd fun h1 => ?_
  refine sim_seg [(.aload_n 0, 0, 0, 0), (.iconst 0, 0, 0, 0), (.putfield 38, 6, 10, 0), (.aload_n 0, 0, 0, 0)] [] (q := 6) (L' := [some (.ref a0)]) (st' := [.ref a0]) (v1 := (si v a0 10 (J 0))) (by decide +kernel) rfl ⟨h1, trivial⟩ ?_
  refine sim_lt (x := (si v a0 10 (J 0))) ?_
  generalize (si v a0 10 (J 0)) = w2
  refine sim_bind fun r3 h4 => ?_
  refine sim_bind fun r5 h6 => ?_
  refine sim_seg [(.getfield 7, 6, 0, 0), (.iconst 0, 0, 0, 0), (.aload_n 0, 0, 0, 0), (.getfield 19, 6, 3, 0), (.iconst 0, 0, 0, 0), (.sipush 199, 0, 0, 199)] [r3, r5] (q := 18) (L' := [some (.ref a0)]) (st' := [.int (J 199), .int (J 0), .ref r5, .int (J 0), .ref r3]) (v1 := w2) (by decide +kernel) rfl ⟨⟨h1, h4⟩, ⟨h1, h6⟩, trivial⟩ ?_
  refine sc_pv (pc3 := 21) (cf_S (idx := 48) [.ref r3, .int (J 0), .ref r5, .int (J 0), .int (J 199)] m_gm_copies ⟨by decide, by decide⟩ (List.mem_of_getElem? (i := 1719) (by decide +kernel)) rfl (Nat.le_of_ble_eq_true rfl) (by decide +kernel) (Nat.le_of_ble_eq_true rfl) rfl) (ok_gm_copies N r3 (J 0) r5 (J 0) (J 199) S w2) rfl (fun w7 => ?_)
  refine sim_seg [(.aload_n 0, 0, 0, 0), (.iconst 1, 0, 0, 1), (.putfield 275, 6, 6, 0), (.aload_n 0, 0, 0, 0)] [] (q := 27) (L' := [some (.ref a0)]) (st' := [.ref a0]) (v1 := (si w7 a0 6 (J 1))) (by decide +kernel) rfl ⟨⟨h1, by decide⟩, trivial⟩ ?_
  refine sim_lt (x := (si w7 a0 6 (J 1))) ?_
  generalize (si w7 a0 6 (J 1)) = w8
  refine sim_grd fun h9 => ?_
  refine sim_seg [(.getfield 7, 6, 0, 0), (.iconst 0, 0, 0, 0), (.iaload, 0, 0, 0)] [r3] (q := 32) (L' := [some (.ref a0)]) (st' := [.int (gi w8 r3 0)]) (v1 := w8) (by decide +kernel) rfl ⟨⟨h1, h4⟩, ⟨(Or.inl (kin_alen h9)), (vin_J h9 (by unfold vp_in; decide))⟩, trivial⟩ ?_
  exact sim_iret (by decide +kernel) rfl rfl rfl
def B_gm_restoreState : bd := (⟨"GateCounterModel", "restoreState", "()I"⟩, prog_8_method_133_code, 1, (some .int), [], 6, 1)
theorem m_gm_restoreState : mV B_gm_restoreState 6 0 := ⟨⟨⟨by decide +kernel, Or.inl rfl⟩, rfl, (List.mem_of_getElem? (i := 2231) (by decide +kernel)), by decide +kernel, (List.mem_of_getElem? (i := 104) (by decide +kernel)), ⟨by decide, by decide⟩, by decide⟩, rfl, (by unfold nar; decide +kernel), (List.mem_of_getElem? (i := 2229) (by decide +kernel)), rfl, (List.mem_of_getElem? (i := 2230) (by decide +kernel))⟩
noncomputable def K_gm_restoreState_18 (N : Nat)  (S : shp) (v : vl) (p0 : Nat) (s0 : Nat) (s1 : Int32) : Option (Int32 × vl) :=
  grd (kin S s0 = some (0, 6)) <| (F_gm_fails s0 s1 (J 1) S v).bind fun (x4, w5) => (if x4 = (J 0) then grd (kin S p0 = some (0, 6)) <| (gr S p0 3).bind fun r7 => (gr S p0 0).bind fun r9 => (F_gm_copies N r7 (J 0) r9 (J 0) (J 199) S w5).bind fun w11 => lt (si w11 p0 5 (J 0)) fun w12 => grd (kin S r9 = some (1, 199)) <| some (((gi w12 r9 0), w12)) else some (((J 0), w5)))
theorem sK_gm_restoreState_18 (N : Nat)   (S : shp) (v : vl) (p0 : Nat) (s0 : Nat) (s1 : Int32) : SimK B_gm_restoreState 18 [some (.ref p0)] [.int s1, .ref s0] S v (K_gm_restoreState_18 N  S v p0 s0 s1) (ρpi S) := by
  unfold K_gm_restoreState_18
  refine sim_seg [(.iconst 1, 0, 0, 1)] [] (q := 19) (L' := [some (.ref p0)]) (st' := [.int (J 1), .int s1, .ref s0]) (v1 := v) (by decide +kernel) rfl trivial ?_
  refine sim_grd fun h3 => ?_
  refine sc_pi (pc3 := 22) (cf_V (idx := 279) (ci := 6) [.int s1, .int (J 1)] m_gm_fails (by decide) ⟨by decide, by decide⟩ (List.mem_of_getElem? (i := 1827) (by decide +kernel)) rfl (Nat.le_of_ble_eq_true rfl) h3 (by decide +kernel) (Nat.le_of_ble_eq_true rfl) rfl) (ok_gm_fails s0 s1 (J 1) S v) rfl (fun x4 w5 => ?_)
  refine sim_eq0 (o := 5) (tg := 27) (f := 25) (by decide +kernel) rfl rfl (fun _ => ?_) (fun _ => ?_)
  · refine sim_grd fun h6 => ?_
    refine sim_bind fun r7 h8 => ?_
    refine sim_bind fun r9 h10 => ?_
    refine sim_seg [(.aload_n 0, 0, 0, 0), (.getfield 19, 6, 3, 0), (.iconst 0, 0, 0, 0), (.aload_n 0, 0, 0, 0), (.getfield 7, 6, 0, 0), (.iconst 0, 0, 0, 0), (.sipush 199, 0, 0, 199)] [r7, r9] (q := 40) (L' := [some (.ref p0)]) (st' := [.int (J 199), .int (J 0), .ref r9, .int (J 0), .ref r7]) (v1 := w5) (by decide +kernel) rfl ⟨⟨h6, h8⟩, ⟨h6, h10⟩, trivial⟩ ?_
    refine sc_pv (pc3 := 43) (cf_S (idx := 48) [.ref r7, .int (J 0), .ref r9, .int (J 0), .int (J 199)] m_gm_copies ⟨by decide, by decide⟩ (List.mem_of_getElem? (i := 1719) (by decide +kernel)) rfl (Nat.le_of_ble_eq_true rfl) (by decide +kernel) (Nat.le_of_ble_eq_true rfl) rfl) (ok_gm_copies N r7 (J 0) r9 (J 0) (J 199) S w5) rfl (fun w11 => ?_)
    refine sim_seg [(.aload_n 0, 0, 0, 0), (.iconst 0, 0, 0, 0), (.putfield 45, 6, 5, 0), (.aload_n 0, 0, 0, 0)] [] (q := 49) (L' := [some (.ref p0)]) (st' := [.ref p0]) (v1 := (si w11 p0 5 (J 0))) (by decide +kernel) rfl ⟨h6, trivial⟩ ?_
    refine sim_lt (x := (si w11 p0 5 (J 0))) ?_
    generalize (si w11 p0 5 (J 0)) = w12
    refine sim_grd fun h13 => ?_
    refine sim_seg [(.getfield 7, 6, 0, 0), (.iconst 0, 0, 0, 0), (.iaload, 0, 0, 0)] [r9] (q := 54) (L' := [some (.ref p0)]) (st' := [.int (gi w12 r9 0)]) (v1 := w12) (by decide +kernel) rfl ⟨⟨h6, h10⟩, ⟨(Or.inl (kin_alen h13)), (vin_J h13 (by unfold vp_in; decide))⟩, trivial⟩ ?_
    exact sim_iret (by decide +kernel) rfl rfl rfl
  · refine sim_seg [(.iconst 0, 0, 0, 0)] [] (q := 26) (L' := [some (.ref p0)]) (st' := [.int (J 0)]) (v1 := w5) (by decide +kernel) rfl trivial ?_
    exact sim_iret (by decide +kernel) rfl rfl rfl
noncomputable def F_gm_restoreState (N : Nat) (a0 : Nat) (S : shp) (v : vl) : Option (Int32 × vl) :=
  grd (kin S a0 = some (0, 6)) <| lt (si v a0 10 (J 0)) fun w2 => (if (gi w2 a0 6) = (J 0) then K_gm_restoreState_18 N  S w2 a0 a0 (J 1) else K_gm_restoreState_18 N  S w2 a0 a0 (J 0))
theorem ok_gm_restoreState (N : Nat) (a0 : Nat) (S : shp) (v : vl) : SimK B_gm_restoreState 0 (entB (bN B_gm_restoreState) [.ref a0]) [] S v (F_gm_restoreState N a0 S v) (ρpi S) := by
  show SimK B_gm_restoreState 0 [some (.ref a0)] [] S v (F_gm_restoreState N a0 S v) _
  unfold F_gm_restoreState
  refine sim_grd fun h1 => ?_
  refine sim_seg [(.aload_n 0, 0, 0, 0), (.iconst 0, 0, 0, 0), (.putfield 38, 6, 10, 0), (.aload_n 0, 0, 0, 0), (.aload_n 0, 0, 0, 0)] [] (q := 7) (L' := [some (.ref a0)]) (st' := [.ref a0, .ref a0]) (v1 := (si v a0 10 (J 0))) (by decide +kernel) rfl ⟨h1, trivial⟩ ?_
  refine sim_lt (x := (si v a0 10 (J 0))) ?_
  generalize (si v a0 10 (J 0)) = w2
  refine sim_seg [(.getfield 275, 6, 6, 0)] [] (q := 10) (L' := [some (.ref a0)]) (st' := [.int (gi w2 a0 6), .ref a0]) (v1 := w2) (by decide +kernel) rfl ⟨h1, trivial⟩ ?_
  refine sim_ne0 (o := 7) (tg := 17) (f := 13) (by decide +kernel) rfl rfl (fun _ => ?_) (fun _ => ?_)
  · refine sim_seg [(.iconst 1, 0, 0, 1), (.goto 4, 0, 0, 0)] [] (q := 18) (L' := [some (.ref a0)]) (st' := [.int (J 1), .ref a0]) (v1 := w2) (by decide +kernel) rfl trivial ?_
    exact sK_gm_restoreState_18 N S w2 a0 a0 (J 1)
  · refine sim_seg [(.iconst 0, 0, 0, 0)] [] (q := 18) (L' := [some (.ref a0)]) (st' := [.int (J 0), .ref a0]) (v1 := w2) (by decide +kernel) rfl trivial ?_
    exact sK_gm_restoreState_18 N S w2 a0 a0 (J 0)
