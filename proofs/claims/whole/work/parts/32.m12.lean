/-! Methods: gm_isUpTo, gm_clocksTo, gm_beginsNow, gm_countsTo, gm_measuresGate, gm_lateOrSilent, gm_measuresPeriod, gm_measures, gm_digitsOf, gm_valueOf, gm_gateValue, gm_periodValue, gm_madeValue, gm_told, gm_foretold, gm_byGate, gm_byPeriod, gm_trueRate, gm_idealValue, gm_apart, gm_noDigits, gm_gateFor, gm_periodsFor. -/
def B_gm_isUpTo : bd := (⟨"GateCounterModel", "isUpTo", "(II)Z"⟩, prog_8_method_4_code, 2, (some .boolean), [], 6, 1)
theorem m_gm_isUpTo : mS B_gm_isUpTo 2 := ⟨⟨⟨by decide +kernel, Or.inl rfl⟩, rfl, (List.mem_of_getElem? (i := 1974) (by decide +kernel)), by decide +kernel, (List.mem_of_getElem? (i := 104) (by decide +kernel)), ⟨by decide, by decide⟩, by decide⟩, rfl, (by unfold nar; decide +kernel), (List.mem_of_getElem? (i := 1973) (by decide +kernel))⟩
noncomputable def F_gm_isUpTo (b0 : Int32) (b1 : Int32) (S : shp) (v : vl) : Option Int32 :=
  (F_gm_inRange b0 (-b1) b1 S v).bind fun x1 => grd (narrow .boolean (.int x1) = .int x1) <| some (x1)
theorem ok_gm_isUpTo (b0 : Int32) (b1 : Int32) (S : shp) (v : vl) : SimK B_gm_isUpTo 0 (entB (bN B_gm_isUpTo) [.int b0, .int b1]) [] S v (F_gm_isUpTo b0 b1 S v) (ρri S v) := by
  show SimK B_gm_isUpTo 0 [some (.int b0), some (.int b1)] [] S v (F_gm_isUpTo b0 b1 S v) _
  unfold F_gm_isUpTo
  refine sim_seg [(.iload_n 0, 0, 0, 0), (.iload_n 1, 0, 0, 0), (.ineg, 0, 0, 0), (.iload_n 1, 0, 0, 0)] [] (q := 4) (L' := [some (.int b0), some (.int b1)]) (st' := [.int b1, .int (-b1), .int b0]) (v1 := v) (by decide +kernel) rfl trivial ?_
  refine sc_ri (pc3 := 7) (cf_S (idx := 41) [.int b0, .int (-b1), .int b1] m_gm_inRange ⟨by decide, by decide⟩ (List.mem_of_getElem? (i := 1712) (by decide +kernel)) rfl (Nat.le_of_ble_eq_true rfl) (by decide +kernel) (Nat.le_of_ble_eq_true rfl) rfl) (ok_gm_inRange b0 (-b1) b1 S v) rfl (fun x1 => ?_)
  refine sim_grd fun h2 => ?_
  exact sim_iret (by decide +kernel) rfl h2 rfl
def B_gm_clocksTo : bd := (⟨"GateCounterModel", "clocksTo", "(I)I"⟩, prog_8_method_84_code, 3, (some .int), [], 6, 2)
theorem m_gm_clocksTo : mV B_gm_clocksTo 6 1 := ⟨⟨⟨by decide +kernel, Or.inl rfl⟩, rfl, (List.mem_of_getElem? (i := 1971) (by decide +kernel)), by decide +kernel, (List.mem_of_getElem? (i := 104) (by decide +kernel)), ⟨by decide, by decide⟩, by decide⟩, rfl, (by unfold nar; decide +kernel), (List.mem_of_getElem? (i := 1969) (by decide +kernel)), rfl, (List.mem_of_getElem? (i := 1970) (by decide +kernel))⟩
noncomputable def K_gm_clocksTo_20  (S : shp) (v : vl) (p0 : Nat) (p1 : Int32) (s0 : Nat) (s1 : Int32) : Option (Int32 × vl) :=
  grd (kin S s0 = some (0, 6)) <| (F_gm_fails s0 s1 (J 1) S v).bind fun (x5, w6) => (if x5 = (J 0) then grd (kin S p0 = some (0, 6)) <| (gr S p0 0).bind fun r8 => grd (kin S r8 = some (1, 199)) <| (if (p1 - (gi w6 r8 2)) = (J 0) then some (((J 0), w6)) else (if (J 0) < ((p1 - (gi w6 r8 2)) * (gi w6 r8 3)) then (F_ma_abs (p1 - (gi w6 r8 2)) S w6).bind fun x11 => lt (((J 100) * x11) - ((gi w6 r8 11) - (gi w6 r8 11) / (J 100) * (J 100))) fun x12 => some ((x12, w6)) else some (((J (-1)), w6)))) else some (((J 0), w6)))
theorem sK_gm_clocksTo_20   (S : shp) (v : vl) (p0 : Nat) (p1 : Int32) (s0 : Nat) (s1 : Int32) : SimK B_gm_clocksTo 20 [some (.ref p0), some (.int p1), none] [.int s1, .ref s0] S v (K_gm_clocksTo_20   S v p0 p1 s0 s1) (ρpi S) := by
  unfold K_gm_clocksTo_20
  refine sim_seg [(.iconst 1, 0, 0, 1)] [] (q := 21) (L' := [some (.ref p0), some (.int p1), none]) (st' := [.int (J 1), .int s1, .ref s0]) (v1 := v) (by decide +kernel) rfl trivial ?_
  refine sim_grd fun h4 => ?_
  refine sc_pi (pc3 := 24) (cf_V (idx := 279) (ci := 6) [.int s1, .int (J 1)] m_gm_fails (by decide) ⟨by decide, by decide⟩ (List.mem_of_getElem? (i := 1827) (by decide +kernel)) rfl (Nat.le_of_ble_eq_true rfl) h4 (by decide +kernel) (Nat.le_of_ble_eq_true rfl) rfl) (ok_gm_fails s0 s1 (J 1) S v) rfl (fun x5 w6 => ?_)
  refine sim_eq0 (o := 5) (tg := 29) (f := 27) (by decide +kernel) rfl rfl (fun _ => ?_) (fun _ => ?_)
  · refine sim_grd fun h7 => ?_
    refine sim_bind fun r8 h9 => ?_
    refine sim_grd fun h10 => ?_
    refine sim_seg [(.iload_n 1, 0, 0, 0), (.aload_n 0, 0, 0, 0), (.getfield 7, 6, 0, 0), (.iconst 2, 0, 0, 2), (.iaload, 0, 0, 0), (.isub, 0, 0, 0), (.istore_n 2, 0, 0, 0)] [r8] (q := 38) (L' := [some (.ref p0), some (.int p1), some (.int (p1 - (gi w6 r8 2)))]) (st' := []) (v1 := w6) (by decide +kernel) rfl ⟨⟨h7, h9⟩, ⟨(Or.inl (kin_alen h10)), (vin_J h10 (by unfold vp_in; decide))⟩, trivial⟩ ?_
    refine sim_seg [(.iload_n 2, 0, 0, 0)] [] (q := 39) (L' := [some (.ref p0), some (.int p1), some (.int (p1 - (gi w6 r8 2)))]) (st' := [.int (p1 - (gi w6 r8 2))]) (v1 := w6) (by decide +kernel) rfl trivial ?_
    refine sim_ne0 (o := 5) (tg := 44) (f := 42) (by decide +kernel) rfl rfl (fun _ => ?_) (fun _ => ?_)
    · refine sim_seg [(.iconst 0, 0, 0, 0)] [] (q := 43) (L' := [some (.ref p0), some (.int p1), some (.int (p1 - (gi w6 r8 2)))]) (st' := [.int (J 0)]) (v1 := w6) (by decide +kernel) rfl trivial ?_
      exact sim_iret (by decide +kernel) rfl rfl rfl
    · refine sim_seg [(.iload_n 2, 0, 0, 0), (.aload_n 0, 0, 0, 0), (.getfield 7, 6, 0, 0), (.iconst 3, 0, 0, 3), (.iaload, 0, 0, 0), (.imul, 0, 0, 0)] [r8] (q := 52) (L' := [some (.ref p0), some (.int p1), some (.int (p1 - (gi w6 r8 2)))]) (st' := [.int ((p1 - (gi w6 r8 2)) * (gi w6 r8 3))]) (v1 := w6) (by decide +kernel) rfl ⟨⟨h7, h9⟩, ⟨(Or.inl (kin_alen h10)), (vin_J h10 (by unfold vp_in; decide))⟩, trivial⟩ ?_
      refine sim_gt0 (o := 5) (tg := 57) (f := 55) (by decide +kernel) rfl rfl (fun _ => ?_) (fun _ => ?_)
      · refine sim_seg [(.bipush 100, 0, 0, 100), (.iload_n 2, 0, 0, 0)] [] (q := 60) (L' := [some (.ref p0), some (.int p1), some (.int (p1 - (gi w6 r8 2)))]) (st' := [.int (p1 - (gi w6 r8 2)), .int (J 100)]) (v1 := w6) (by decide +kernel) rfl trivial ?_
        refine sc_ri (pc3 := 63) (cf_S (idx := 317) [.int (p1 - (gi w6 r8 2))] m_ma_abs ⟨by decide, by decide⟩ (List.mem_of_getElem? (i := 1975) (by decide +kernel)) rfl (Nat.le_of_ble_eq_true rfl) (by decide +kernel) (Nat.le_of_ble_eq_true rfl) rfl) (ok_ma_abs (p1 - (gi w6 r8 2)) S w6) rfl (fun x11 => ?_)
        refine sim_seg [(.imul, 0, 0, 0), (.aload_n 0, 0, 0, 0), (.getfield 7, 6, 0, 0), (.bipush 11, 0, 0, 11), (.iaload, 0, 0, 0), (.bipush 100, 0, 0, 100), (.irem, 0, 0, 0), (.isub, 0, 0, 0)] [r8] (q := 75) (L' := [some (.ref p0), some (.int p1), some (.int (p1 - (gi w6 r8 2)))]) (st' := [.int (((J 100) * x11) - ((gi w6 r8 11) - (gi w6 r8 11) / (J 100) * (J 100)))]) (v1 := w6) (by decide +kernel) rfl ⟨⟨h7, h9⟩, ⟨(Or.inl (kin_alen h10)), (vin_J h10 (by unfold vp_in; decide))⟩, (by decide), trivial⟩ ?_
        refine sim_nm (((J 100) * x11) - ((gi w6 r8 11) - (gi w6 r8 11) / (J 100) * (J 100))) (fun x12 => [some (.ref p0), some (.int p1), some (.int (p1 - (gi w6 r8 2)))]) (fun x12 => [.int x12]) (fun x12 => ?_) rfl rfl
        exact sim_iret (by decide +kernel) rfl rfl rfl
      · refine sim_seg [(.iconst (-1), 0, 0, (-1))] [] (q := 56) (L' := [some (.ref p0), some (.int p1), some (.int (p1 - (gi w6 r8 2)))]) (st' := [.int (J (-1))]) (v1 := w6) (by decide +kernel) rfl trivial ?_
        exact sim_iret (by decide +kernel) rfl rfl rfl
  · refine sim_seg [(.iconst 0, 0, 0, 0)] [] (q := 28) (L' := [some (.ref p0), some (.int p1), none]) (st' := [.int (J 0)]) (v1 := w6) (by decide +kernel) rfl trivial ?_
    exact sim_iret (by decide +kernel) rfl rfl rfl
noncomputable def F_gm_clocksTo (a0 : Nat) (b1 : Int32) (S : shp) (v : vl) : Option (Int32 × vl) :=
  grd (kin S a0 = some (0, 6)) <| lt (si v a0 10 (J 0)) fun w2 => (F_gm_isUpTo b1 (J 99) S w2).bind fun x3 => (if x3 = (J 0) then K_gm_clocksTo_20  S w2 a0 b1 a0 (J 1) else K_gm_clocksTo_20  S w2 a0 b1 a0 (J 0))
theorem ok_gm_clocksTo (a0 : Nat) (b1 : Int32) (S : shp) (v : vl) : SimK B_gm_clocksTo 0 (entB (bN B_gm_clocksTo) [.ref a0, .int b1]) [] S v (F_gm_clocksTo a0 b1 S v) (ρpi S) := by
  show SimK B_gm_clocksTo 0 [some (.ref a0), some (.int b1), none] [] S v (F_gm_clocksTo a0 b1 S v) _
  unfold F_gm_clocksTo
  refine sim_grd fun h1 => ?_
  refine sim_seg [(.aload_n 0, 0, 0, 0), (.iconst 0, 0, 0, 0), (.putfield 38, 6, 10, 0), (.aload_n 0, 0, 0, 0), (.iload_n 1, 0, 0, 0), (.bipush 99, 0, 0, 99)] [] (q := 9) (L' := [some (.ref a0), some (.int b1), none]) (st' := [.int (J 99), .int b1, .ref a0]) (v1 := (si v a0 10 (J 0))) (by decide +kernel) rfl ⟨h1, trivial⟩ ?_
  refine sim_lt (x := (si v a0 10 (J 0))) ?_
  generalize (si v a0 10 (J 0)) = w2
  refine sc_ri (pc3 := 12) (cf_S (idx := 314) [.int b1, .int (J 99)] m_gm_isUpTo ⟨by decide, by decide⟩ (List.mem_of_getElem? (i := 1972) (by decide +kernel)) rfl (Nat.le_of_ble_eq_true rfl) (by decide +kernel) (Nat.le_of_ble_eq_true rfl) rfl) (ok_gm_isUpTo b1 (J 99) S w2) rfl (fun x3 => ?_)
  refine sim_ne0 (o := 7) (tg := 19) (f := 15) (by decide +kernel) rfl rfl (fun _ => ?_) (fun _ => ?_)
  · refine sim_seg [(.iconst 1, 0, 0, 1), (.goto 4, 0, 0, 0)] [] (q := 20) (L' := [some (.ref a0), some (.int b1), none]) (st' := [.int (J 1), .ref a0]) (v1 := w2) (by decide +kernel) rfl trivial ?_
    exact sK_gm_clocksTo_20 S w2 a0 b1 a0 (J 1)
  · refine sim_seg [(.iconst 0, 0, 0, 0)] [] (q := 20) (L' := [some (.ref a0), some (.int b1), none]) (st' := [.int (J 0), .ref a0]) (v1 := w2) (by decide +kernel) rfl trivial ?_
    exact sK_gm_clocksTo_20 S w2 a0 b1 a0 (J 0)
def B_gm_beginsNow : bd := (⟨"GateCounterModel", "beginsNow", "()V"⟩, prog_8_method_21_code, 1, none, [], 6, 0)
theorem m_gm_beginsNow : mV B_gm_beginsNow 6 0 := ⟨⟨⟨by decide +kernel, Or.inl rfl⟩, rfl, (List.mem_of_getElem? (i := 1999) (by decide +kernel)), by decide +kernel, (List.mem_of_getElem? (i := 104) (by decide +kernel)), ⟨by decide, by decide⟩, by decide⟩, rfl, (by unfold nar; decide +kernel), (List.mem_of_getElem? (i := 1998) (by decide +kernel)), rfl, (List.mem_of_getElem? (i := 74) (by decide +kernel))⟩
noncomputable def F_gm_beginsNow (a0 : Nat) (S : shp) (v : vl) : Option vl :=
  grd (kin S a0 = some (0, 6)) <| (gr S a0 0).bind fun r2 => grd (kin S r2 = some (1, 199)) <| lt (si (si v a0 11 (gi v r2 0)) a0 13 (J 0)) fun w5 => lt (si w5 a0 14 (gi w5 r2 14)) fun w6 => some (w6)
theorem ok_gm_beginsNow (a0 : Nat) (S : shp) (v : vl) : SimK B_gm_beginsNow 0 (entB (bN B_gm_beginsNow) [.ref a0]) [] S v (F_gm_beginsNow a0 S v) (ρpv S) := by
  show SimK B_gm_beginsNow 0 [some (.ref a0)] [] S v (F_gm_beginsNow a0 S v) _
  unfold F_gm_beginsNow
  refine sim_grd fun h1 => ?_
  refine sim_bind fun r2 h3 => ?_
  refine sim_grd fun h4 => ?_
  refine sim_seg [(.aload_n 0, 0, 0, 0), (.aload_n 0, 0, 0, 0), (.getfield 7, 6, 0, 0), (.iconst 0, 0, 0, 0), (.iaload, 0, 0, 0), (.putfield 93, 6, 11, 0), (.aload_n 0, 0, 0, 0), (.iconst 0, 0, 0, 0), (.putfield 96, 6, 13, 0), (.aload_n 0, 0, 0, 0), (.aload_n 0, 0, 0, 0)] [r2] (q := 17) (L' := [some (.ref a0)]) (st' := [.ref a0, .ref a0]) (v1 := (si (si v a0 11 (gi v r2 0)) a0 13 (J 0))) (by decide +kernel) rfl ⟨⟨h1, h3⟩, ⟨(Or.inl (kin_alen h4)), (vin_J h4 (by unfold vp_in; decide))⟩, h1, h1, trivial⟩ ?_
  refine sim_lt (x := (si (si v a0 11 (gi v r2 0)) a0 13 (J 0))) ?_
  generalize (si (si v a0 11 (gi v r2 0)) a0 13 (J 0)) = w5
  refine sim_seg [(.getfield 7, 6, 0, 0), (.bipush 14, 0, 0, 14), (.iaload, 0, 0, 0), (.putfield 99, 6, 14, 0)] [r2] (q := 26) (L' := [some (.ref a0)]) (st' := []) (v1 := (si w5 a0 14 (gi w5 r2 14))) (by decide +kernel) rfl ⟨⟨h1, h3⟩, ⟨(Or.inl (kin_alen h4)), (vin_J h4 (by unfold vp_in; decide))⟩, h1, trivial⟩ ?_
  refine sim_lt (x := (si w5 a0 14 (gi w5 r2 14))) ?_
  generalize (si w5 a0 14 (gi w5 r2 14)) = w6
  exact sim_vret (by decide +kernel) rfl rfl
def B_gm_countsTo : bd := (⟨"GateCounterModel", "countsTo", "(II)Z"⟩, prog_8_method_22_code, 4, (some .boolean), [], 6, 4)
theorem m_gm_countsTo : mV B_gm_countsTo 6 2 := ⟨⟨⟨by decide +kernel, Or.inl rfl⟩, rfl, (List.mem_of_getElem? (i := 2003) (by decide +kernel)), by decide +kernel, (List.mem_of_getElem? (i := 104) (by decide +kernel)), ⟨by decide, by decide⟩, by decide⟩, rfl, (by unfold nar; decide +kernel), (List.mem_of_getElem? (i := 2002) (by decide +kernel)), rfl, (List.mem_of_getElem? (i := 75) (by decide +kernel))⟩
noncomputable def K_gm_countsTo_45 (N : Nat)  (S : shp) (v : vl) (p0 : Nat) (p1 : Int32) (p3 : Int32) : Option (Int32 × vl) :=
  grd (kin S p0 = some (0, 6)) <| (gr S p0 0).bind fun r5 => grd (kin S r5 = some (1, 199)) <| lt (si v p0 12 (gi v r5 0)) fun w8 => lt (si w8 p0 15 (gi w8 r5 14)) fun w9 => (if p3 = p1 then some (((J 1), w9)) else some (((J 0), w9)))
theorem sK_gm_countsTo_45 (N : Nat)   (S : shp) (v : vl) (p0 : Nat) (p1 : Int32) (p3 : Int32) : SimK B_gm_countsTo 45 [some (.ref p0), some (.int p1), none, some (.int p3)] [] S v (K_gm_countsTo_45 N  S v p0 p1 p3) (ρpi S) := by
  unfold K_gm_countsTo_45
  refine sim_grd fun h4 => ?_
  refine sim_bind fun r5 h6 => ?_
  refine sim_grd fun h7 => ?_
  refine sim_seg [(.aload_n 0, 0, 0, 0), (.aload_n 0, 0, 0, 0), (.getfield 7, 6, 0, 0), (.iconst 0, 0, 0, 0), (.iaload, 0, 0, 0), (.putfield 102, 6, 12, 0), (.aload_n 0, 0, 0, 0), (.aload_n 0, 0, 0, 0)] [r5] (q := 57) (L' := [some (.ref p0), some (.int p1), none, some (.int p3)]) (st' := [.ref p0, .ref p0]) (v1 := (si v p0 12 (gi v r5 0))) (by decide +kernel) rfl ⟨⟨h4, h6⟩, ⟨(Or.inl (kin_alen h7)), (vin_J h7 (by unfold vp_in; decide))⟩, h4, trivial⟩ ?_
  refine sim_lt (x := (si v p0 12 (gi v r5 0))) ?_
  generalize (si v p0 12 (gi v r5 0)) = w8
  refine sim_seg [(.getfield 7, 6, 0, 0), (.bipush 14, 0, 0, 14), (.iaload, 0, 0, 0), (.putfield 105, 6, 15, 0), (.iload_n 3, 0, 0, 0), (.iload_n 1, 0, 0, 0)] [r5] (q := 68) (L' := [some (.ref p0), some (.int p1), none, some (.int p3)]) (st' := [.int p1, .int p3]) (v1 := (si w8 p0 15 (gi w8 r5 14))) (by decide +kernel) rfl ⟨⟨h4, h6⟩, ⟨(Or.inl (kin_alen h7)), (vin_J h7 (by unfold vp_in; decide))⟩, h4, trivial⟩ ?_
  refine sim_lt (x := (si w8 p0 15 (gi w8 r5 14))) ?_
  generalize (si w8 p0 15 (gi w8 r5 14)) = w9
  refine sim_ne (o := 7) (tg := 75) (f := 71) (by decide +kernel) rfl rfl (fun _ => ?_) (fun _ => ?_)
  · refine sim_seg [(.iconst 1, 0, 0, 1), (.goto 4, 0, 0, 0)] [] (q := 76) (L' := [some (.ref p0), some (.int p1), none, some (.int p3)]) (st' := [.int (J 1)]) (v1 := w9) (by decide +kernel) rfl trivial ?_
    exact sim_iret (by decide +kernel) rfl (by decide) rfl
  · refine sim_seg [(.iconst 0, 0, 0, 0)] [] (q := 76) (L' := [some (.ref p0), some (.int p1), none, some (.int p3)]) (st' := [.int (J 0)]) (v1 := w9) (by decide +kernel) rfl trivial ?_
    exact sim_iret (by decide +kernel) rfl (by decide) rfl
noncomputable def Y_gm_countsTo_7 (N : Nat)  (i7 : vl → Nat → Int32 → Int32 → Int32 → Option (Int32 × vl)) (S : shp) (v : vl) (p0 : Nat) (p1 : Int32) (p2 : Int32) (p3 : Int32) : Option (Int32 × vl) :=
  (if p3 = p1 then K_gm_countsTo_45 N  S v p0 p1 p3 else (if p3 = (J 0) then K_gm_countsTo_45 N  S v p0 p1 p3 else grd (kin S p0 = some (0, 6)) <| (if p3 = p2 then lt (si v p0 13 ((gi v p0 13) + (J 1))) fun w11 => (F_gm_comes p0 (J 2000000) S w11).bind fun (x12, w13) => i7 w13 p0 p1 p2 x12 else lt (si v p0 13 ((gi v p0 13) + (J 0))) fun w14 => (F_gm_comes p0 (J 2000000) S w14).bind fun (x15, w16) => i7 w16 p0 p1 p2 x15)))
noncomputable def K_gm_countsTo_7 (N : Nat)  (n : Nat) (S : shp) : vl → Nat → Int32 → Int32 → Int32 → Option (Int32 × vl) :=
  Nat.rec (motive := fun _ => vl → Nat → Int32 → Int32 → Int32 → Option (Int32 × vl)) (fun _ _ _ _ _ => none) (fun _ i => Y_gm_countsTo_7 N  i S) n
theorem sY_gm_countsTo_7 (N : Nat)  (i7 : vl → Nat → Int32 → Int32 → Int32 → Option (Int32 × vl)) (S : shp)  (j7 : ∀ (v : vl) (p0 : Nat) (p1 : Int32) (p2 : Int32) (p3 : Int32), SimK B_gm_countsTo 7 [some (.ref p0), some (.int p1), some (.int p2), some (.int p3)] [] S v (i7 v p0 p1 p2 p3) (ρpi S)) (v : vl) (p0 : Nat) (p1 : Int32) (p2 : Int32) (p3 : Int32) : SimK B_gm_countsTo 7 [some (.ref p0), some (.int p1), some (.int p2), some (.int p3)] [] S v (Y_gm_countsTo_7 N  i7 S v p0 p1 p2 p3) (ρpi S) := by
  unfold Y_gm_countsTo_7
  refine sim_seg [(.iload_n 3, 0, 0, 0), (.iload_n 1, 0, 0, 0)] [] (q := 9) (L' := [some (.ref p0), some (.int p1), some (.int p2), some (.int p3)]) (st' := [.int p1, .int p3]) (v1 := v) (by decide +kernel) rfl trivial ?_
  refine sim_eq (o := 36) (tg := 45) (f := 12) (by decide +kernel) rfl rfl (fun _ => ?_) (fun _ => ?_)
  · exact sim_wk (L0 := [some (.ref p0), some (.int p1), none, some (.int p3)]) ⟨rfl, rfl, rfl, trivial⟩ (sK_gm_countsTo_45 N S v p0 p1 p3)
  · refine sim_seg [(.iload_n 3, 0, 0, 0)] [] (q := 13) (L' := [some (.ref p0), some (.int p1), some (.int p2), some (.int p3)]) (st' := [.int p3]) (v1 := v) (by decide +kernel) rfl trivial ?_
    refine sim_eq0 (o := 32) (tg := 45) (f := 16) (by decide +kernel) rfl rfl (fun _ => ?_) (fun _ => ?_)
    · exact sim_wk (L0 := [some (.ref p0), some (.int p1), none, some (.int p3)]) ⟨rfl, rfl, rfl, trivial⟩ (sK_gm_countsTo_45 N S v p0 p1 p3)
    · refine sim_grd fun h10 => ?_
      refine sim_seg [(.aload_n 0, 0, 0, 0), (.dup, 0, 0, 0), (.getfield 96, 6, 13, 0), (.iload_n 3, 0, 0, 0), (.iload_n 2, 0, 0, 0)] [] (q := 23) (L' := [some (.ref p0), some (.int p1), some (.int p2), some (.int p3)]) (st' := [.int p2, .int p3, .int (gi v p0 13), .ref p0]) (v1 := v) (by decide +kernel) rfl ⟨h10, trivial⟩ ?_
      refine sim_ne (o := 7) (tg := 30) (f := 26) (by decide +kernel) rfl rfl (fun _ => ?_) (fun _ => ?_)
      · refine sim_seg [(.iconst 1, 0, 0, 1), (.goto 4, 0, 0, 0), (.iadd, 0, 0, 0), (.putfield 96, 6, 13, 0), (.aload_n 0, 0, 0, 0), (.ldc 92, 0, 0, 2000000)] [] (q := 38) (L' := [some (.ref p0), some (.int p1), some (.int p2), some (.int p3)]) (st' := [.int (J 2000000), .ref p0]) (v1 := (si v p0 13 ((gi v p0 13) + (J 1)))) (by decide +kernel) rfl ⟨h10, trivial⟩ ?_
        refine sim_lt (x := (si v p0 13 ((gi v p0 13) + (J 1)))) ?_
        generalize (si v p0 13 ((gi v p0 13) + (J 1))) = w11
        refine sc_pi (pc3 := 41) (cf_V (idx := 89) (ci := 6) [.int (J 2000000)] m_gm_comes (by decide) ⟨by decide, by decide⟩ (List.mem_of_getElem? (i := 1892) (by decide +kernel)) rfl (Nat.le_of_ble_eq_true rfl) h10 (by decide +kernel) (Nat.le_of_ble_eq_true rfl) rfl) (ok_gm_comes p0 (J 2000000) S w11) rfl (fun x12 w13 => ?_)
        refine sim_seg [(.istore_n 3, 0, 0, 0)] [] (q := 42) (L' := [some (.ref p0), some (.int p1), some (.int p2), some (.int x12)]) (st' := []) (v1 := w13) (by decide +kernel) rfl trivial ?_
        refine sim_seg [(.goto (-35), 0, 0, 0)] [] (q := 7) (L' := [some (.ref p0), some (.int p1), some (.int p2), some (.int x12)]) (st' := []) (v1 := w13) (by decide +kernel) rfl trivial ?_
        exact j7 w13 p0 p1 p2 x12
      · refine sim_seg [(.iconst 0, 0, 0, 0), (.iadd, 0, 0, 0), (.putfield 96, 6, 13, 0), (.aload_n 0, 0, 0, 0), (.ldc 92, 0, 0, 2000000)] [] (q := 38) (L' := [some (.ref p0), some (.int p1), some (.int p2), some (.int p3)]) (st' := [.int (J 2000000), .ref p0]) (v1 := (si v p0 13 ((gi v p0 13) + (J 0)))) (by decide +kernel) rfl ⟨h10, trivial⟩ ?_
        refine sim_lt (x := (si v p0 13 ((gi v p0 13) + (J 0)))) ?_
        generalize (si v p0 13 ((gi v p0 13) + (J 0))) = w14
        refine sc_pi (pc3 := 41) (cf_V (idx := 89) (ci := 6) [.int (J 2000000)] m_gm_comes (by decide) ⟨by decide, by decide⟩ (List.mem_of_getElem? (i := 1892) (by decide +kernel)) rfl (Nat.le_of_ble_eq_true rfl) h10 (by decide +kernel) (Nat.le_of_ble_eq_true rfl) rfl) (ok_gm_comes p0 (J 2000000) S w14) rfl (fun x15 w16 => ?_)
        refine sim_seg [(.istore_n 3, 0, 0, 0)] [] (q := 42) (L' := [some (.ref p0), some (.int p1), some (.int p2), some (.int x15)]) (st' := []) (v1 := w16) (by decide +kernel) rfl trivial ?_
        refine sim_seg [(.goto (-35), 0, 0, 0)] [] (q := 7) (L' := [some (.ref p0), some (.int p1), some (.int p2), some (.int x15)]) (st' := []) (v1 := w16) (by decide +kernel) rfl trivial ?_
        exact j7 w16 p0 p1 p2 x15
theorem sR_gm_countsTo_7 (N : Nat)  (S : shp)  (n : Nat) : ∀ (v : vl) (p0 : Nat) (p1 : Int32) (p2 : Int32) (p3 : Int32), SimK B_gm_countsTo 7 [some (.ref p0), some (.int p1), some (.int p2), some (.int p3)] [] S v (K_gm_countsTo_7 N  n S v p0 p1 p2 p3) (ρpi S) := by
  induction n with
  | zero => intro v p0 p1 p2 p3; exact sim_none
  | succ k ih => intro v p0 p1 p2 p3; exact sY_gm_countsTo_7 N   _ S  ih v p0 p1 p2 p3
theorem sK_gm_countsTo_7 (N : Nat)  (n : Nat) (S : shp) (v : vl) (p0 : Nat) (p1 : Int32) (p2 : Int32) (p3 : Int32) : SimK B_gm_countsTo 7 [some (.ref p0), some (.int p1), some (.int p2), some (.int p3)] [] S v (K_gm_countsTo_7 N  n S v p0 p1 p2 p3) (ρpi S) := sR_gm_countsTo_7 N   S  n  v p0 p1 p2 p3
noncomputable def F_gm_countsTo (N : Nat) (a0 : Nat) (b1 : Int32) (b2 : Int32) (S : shp) (v : vl) : Option (Int32 × vl) :=
  grd (kin S a0 = some (0, 6)) <| (F_gm_comes a0 (J 2000000) S v).bind fun (x2, w3) => K_gm_countsTo_7 N  N S w3 a0 b1 b2 x2
theorem ok_gm_countsTo (N : Nat) (a0 : Nat) (b1 : Int32) (b2 : Int32) (S : shp) (v : vl) : SimK B_gm_countsTo 0 (entB (bN B_gm_countsTo) [.ref a0, .int b1, .int b2]) [] S v (F_gm_countsTo N a0 b1 b2 S v) (ρpi S) := by
  show SimK B_gm_countsTo 0 [some (.ref a0), some (.int b1), some (.int b2), none] [] S v (F_gm_countsTo N a0 b1 b2 S v) _
  unfold F_gm_countsTo
  refine sim_seg [(.aload_n 0, 0, 0, 0), (.ldc 92, 0, 0, 2000000)] [] (q := 3) (L' := [some (.ref a0), some (.int b1), some (.int b2), none]) (st' := [.int (J 2000000), .ref a0]) (v1 := v) (by decide +kernel) rfl trivial ?_
  refine sim_grd fun h1 => ?_
  refine sc_pi (pc3 := 6) (cf_V (idx := 89) (ci := 6) [.int (J 2000000)] m_gm_comes (by decide) ⟨by decide, by decide⟩ (List.mem_of_getElem? (i := 1892) (by decide +kernel)) rfl (Nat.le_of_ble_eq_true rfl) h1 (by decide +kernel) (Nat.le_of_ble_eq_true rfl) rfl) (ok_gm_comes a0 (J 2000000) S v) rfl (fun x2 w3 => ?_)
  refine sim_seg [(.istore_n 3, 0, 0, 0)] [] (q := 7) (L' := [some (.ref a0), some (.int b1), some (.int b2), some (.int x2)]) (st' := []) (v1 := w3) (by decide +kernel) rfl trivial ?_
  exact sK_gm_countsTo_7 N N S w3 a0 b1 b2 x2
def B_gm_measuresGate : bd := (⟨"GateCounterModel", "measuresGate", "()I"⟩, prog_8_method_24_code, 2, (some .int), [], 6, 5)
theorem m_gm_measuresGate : mV B_gm_measuresGate 6 0 := ⟨⟨⟨by decide +kernel, Or.inl rfl⟩, rfl, (List.mem_of_getElem? (i := 2007) (by decide +kernel)), by decide +kernel, (List.mem_of_getElem? (i := 104) (by decide +kernel)), ⟨by decide, by decide⟩, by decide⟩, rfl, (by unfold nar; decide +kernel), (List.mem_of_getElem? (i := 2006) (by decide +kernel)), rfl, (List.mem_of_getElem? (i := 76) (by decide +kernel))⟩
noncomputable def Y_gm_measuresGate_16 (N : Nat)  (i16 : vl → Nat → Int32 → Option (Int32 × vl)) (S : shp) (v : vl) (p0 : Nat) (p1 : Int32) : Option (Int32 × vl) :=
  grd (kin S p0 = some (0, 6)) <| (gr S p0 0).bind fun r6 => grd (kin S r6 = some (1, 199)) <| (if p1 < (gi v r6 5) then (F_gm_countsTo N p0 (J 2) (J 4) S v).bind fun (x9, w10) => (if x9 = (J 0) then some (((J 1), w10)) else i16 w10 p0 (p1 + (J 1))) else some (((J 0), v)))
noncomputable def K_gm_measuresGate_16 (N : Nat)  (n : Nat) (S : shp) : vl → Nat → Int32 → Option (Int32 × vl) :=
  Nat.rec (motive := fun _ => vl → Nat → Int32 → Option (Int32 × vl)) (fun _ _ _ => none) (fun _ i => Y_gm_measuresGate_16 N  i S) n
theorem sY_gm_measuresGate_16 (N : Nat)  (i16 : vl → Nat → Int32 → Option (Int32 × vl)) (S : shp)  (j16 : ∀ (v : vl) (p0 : Nat) (p1 : Int32), SimK B_gm_measuresGate 16 [some (.ref p0), some (.int p1)] [] S v (i16 v p0 p1) (ρpi S)) (v : vl) (p0 : Nat) (p1 : Int32) : SimK B_gm_measuresGate 16 [some (.ref p0), some (.int p1)] [] S v (Y_gm_measuresGate_16 N  i16 S v p0 p1) (ρpi S) := by
  unfold Y_gm_measuresGate_16
  refine sim_grd fun h5 => ?_
  refine sim_bind fun r6 h7 => ?_
  refine sim_grd fun h8 => ?_
  refine sim_seg [(.iload_n 1, 0, 0, 0), (.aload_n 0, 0, 0, 0), (.getfield 7, 6, 0, 0), (.iconst 5, 0, 0, 5), (.iaload, 0, 0, 0)] [r6] (q := 23) (L' := [some (.ref p0), some (.int p1)]) (st' := [.int (gi v r6 5), .int p1]) (v1 := v) (by decide +kernel) rfl ⟨⟨h5, h7⟩, ⟨(Or.inl (kin_alen h8)), (vin_J h8 (by unfold vp_in; decide))⟩, trivial⟩ ?_
  refine sim_ge (o := 20) (tg := 43) (f := 26) (by decide +kernel) rfl rfl (fun _ => ?_) (fun _ => ?_)
  · refine sim_seg [(.aload_n 0, 0, 0, 0), (.iconst 2, 0, 0, 2), (.iconst 4, 0, 0, 4)] [] (q := 29) (L' := [some (.ref p0), some (.int p1)]) (st' := [.int (J 4), .int (J 2), .ref p0]) (v1 := v) (by decide +kernel) rfl trivial ?_
    refine sc_pi (pc3 := 32) (cf_V (idx := 114) (ci := 6) [.int (J 2), .int (J 4)] m_gm_countsTo (by decide) ⟨by decide, by decide⟩ (List.mem_of_getElem? (i := 2000) (by decide +kernel)) rfl (Nat.le_of_ble_eq_true rfl) h5 (by decide +kernel) (Nat.le_of_ble_eq_true rfl) rfl) (ok_gm_countsTo N p0 (J 2) (J 4) S v) rfl (fun x9 w10 => ?_)
    refine sim_ne0 (o := 5) (tg := 37) (f := 35) (by decide +kernel) rfl rfl (fun _ => ?_) (fun _ => ?_)
    · refine sim_seg [(.iconst 1, 0, 0, 1)] [] (q := 36) (L' := [some (.ref p0), some (.int p1)]) (st' := [.int (J 1)]) (v1 := w10) (by decide +kernel) rfl trivial ?_
      exact sim_iret (by decide +kernel) rfl rfl rfl
    · refine sim_seg [(.iinc 1 1, 0, 0, 1)] [] (q := 40) (L' := [some (.ref p0), some (.int (p1 + (J 1)))]) (st' := []) (v1 := w10) (by decide +kernel) rfl trivial ?_
      refine sim_seg [(.goto (-24), 0, 0, 0)] [] (q := 16) (L' := [some (.ref p0), some (.int (p1 + (J 1)))]) (st' := []) (v1 := w10) (by decide +kernel) rfl trivial ?_
      exact j16 w10 p0 (p1 + (J 1))
  · refine sim_seg [(.iconst 0, 0, 0, 0)] [] (q := 44) (L' := [some (.ref p0), some (.int p1)]) (st' := [.int (J 0)]) (v1 := v) (by decide +kernel) rfl trivial ?_
    exact sim_iret (by decide +kernel) rfl rfl rfl
theorem sR_gm_measuresGate_16 (N : Nat)  (S : shp)  (n : Nat) : ∀ (v : vl) (p0 : Nat) (p1 : Int32), SimK B_gm_measuresGate 16 [some (.ref p0), some (.int p1)] [] S v (K_gm_measuresGate_16 N  n S v p0 p1) (ρpi S) := by
  induction n with
  | zero => intro v p0 p1; exact sim_none
  | succ k ih => intro v p0 p1; exact sY_gm_measuresGate_16 N   _ S  ih v p0 p1
theorem sK_gm_measuresGate_16 (N : Nat)  (n : Nat) (S : shp) (v : vl) (p0 : Nat) (p1 : Int32) : SimK B_gm_measuresGate 16 [some (.ref p0), some (.int p1)] [] S v (K_gm_measuresGate_16 N  n S v p0 p1) (ρpi S) := sR_gm_measuresGate_16 N   S  n  v p0 p1
noncomputable def F_gm_measuresGate (N : Nat) (a0 : Nat) (S : shp) (v : vl) : Option (Int32 × vl) :=
  grd (kin S a0 = some (0, 6)) <| (F_gm_waitsFor N a0 (J 2) S v).bind fun (x2, w3) => (if x2 = (J 0) then some (((J 1), w3)) else (F_gm_beginsNow a0 S w3).bind fun w4 => K_gm_measuresGate_16 N  N S w4 a0 (J 0))
theorem ok_gm_measuresGate (N : Nat) (a0 : Nat) (S : shp) (v : vl) : SimK B_gm_measuresGate 0 (entB (bN B_gm_measuresGate) [.ref a0]) [] S v (F_gm_measuresGate N a0 S v) (ρpi S) := by
  show SimK B_gm_measuresGate 0 [some (.ref a0), none] [] S v (F_gm_measuresGate N a0 S v) _
  unfold F_gm_measuresGate
  refine sim_seg [(.aload_n 0, 0, 0, 0), (.iconst 2, 0, 0, 2)] [] (q := 2) (L' := [some (.ref a0), none]) (st' := [.int (J 2), .ref a0]) (v1 := v) (by decide +kernel) rfl trivial ?_
  refine sim_grd fun h1 => ?_
  refine sc_pi (pc3 := 5) (cf_V (idx := 108) (ci := 6) [.int (J 2)] m_gm_waitsFor (by decide) ⟨by decide, by decide⟩ (List.mem_of_getElem? (i := 1939) (by decide +kernel)) rfl (Nat.le_of_ble_eq_true rfl) h1 (by decide +kernel) (Nat.le_of_ble_eq_true rfl) rfl) (ok_gm_waitsFor N a0 (J 2) S v) rfl (fun x2 w3 => ?_)
  refine sim_ne0 (o := 5) (tg := 10) (f := 8) (by decide +kernel) rfl rfl (fun _ => ?_) (fun _ => ?_)
  · refine sim_seg [(.iconst 1, 0, 0, 1)] [] (q := 9) (L' := [some (.ref a0), none]) (st' := [.int (J 1)]) (v1 := w3) (by decide +kernel) rfl trivial ?_
    exact sim_iret (by decide +kernel) rfl rfl rfl
  · refine sim_seg [(.aload_n 0, 0, 0, 0)] [] (q := 11) (L' := [some (.ref a0), none]) (st' := [.ref a0]) (v1 := w3) (by decide +kernel) rfl trivial ?_
    refine sc_pv (pc3 := 14) (cf_V (idx := 111) (ci := 6) [] m_gm_beginsNow (by decide) ⟨by decide, by decide⟩ (List.mem_of_getElem? (i := 1996) (by decide +kernel)) rfl (Nat.le_of_ble_eq_true rfl) h1 (by decide +kernel) (Nat.le_of_ble_eq_true rfl) rfl) (ok_gm_beginsNow a0 S w3) rfl (fun w4 => ?_)
    refine sim_seg [(.iconst 0, 0, 0, 0), (.istore_n 1, 0, 0, 0)] [] (q := 16) (L' := [some (.ref a0), some (.int (J 0))]) (st' := []) (v1 := w4) (by decide +kernel) rfl trivial ?_
    exact sK_gm_measuresGate_16 N N S w4 a0 (J 0)
def B_gm_lateOrSilent : bd := (⟨"GateCounterModel", "lateOrSilent", "()I"⟩, prog_8_method_23_code, 1, (some .int), [], 6, 0)
theorem m_gm_lateOrSilent : mV B_gm_lateOrSilent 6 0 := ⟨⟨⟨by decide +kernel, Or.inl rfl⟩, rfl, (List.mem_of_getElem? (i := 1995) (by decide +kernel)), by decide +kernel, (List.mem_of_getElem? (i := 104) (by decide +kernel)), ⟨by decide, by decide⟩, by decide⟩, rfl, (by unfold nar; decide +kernel), (List.mem_of_getElem? (i := 1994) (by decide +kernel)), rfl, (List.mem_of_getElem? (i := 73) (by decide +kernel))⟩
noncomputable def F_gm_lateOrSilent (a0 : Nat) (S : shp) (v : vl) : Option Int32 :=
  grd (kin S a0 = some (0, 6)) <| (gr S a0 0).bind fun r2 => grd (kin S r2 = some (1, 199)) <| (if (gi v r2 12) = (J 0) then some ((J 2)) else some ((J 1)))
theorem ok_gm_lateOrSilent (a0 : Nat) (S : shp) (v : vl) : SimK B_gm_lateOrSilent 0 (entB (bN B_gm_lateOrSilent) [.ref a0]) [] S v (F_gm_lateOrSilent a0 S v) (ρri S v) := by
  show SimK B_gm_lateOrSilent 0 [some (.ref a0)] [] S v (F_gm_lateOrSilent a0 S v) _
  unfold F_gm_lateOrSilent
  refine sim_grd fun h1 => ?_
  refine sim_bind fun r2 h3 => ?_
  refine sim_grd fun h4 => ?_
  refine sim_seg [(.aload_n 0, 0, 0, 0), (.getfield 7, 6, 0, 0), (.bipush 12, 0, 0, 12), (.iaload, 0, 0, 0)] [r2] (q := 7) (L' := [some (.ref a0)]) (st' := [.int (gi v r2 12)]) (v1 := v) (by decide +kernel) rfl ⟨⟨h1, h3⟩, ⟨(Or.inl (kin_alen h4)), (vin_J h4 (by unfold vp_in; decide))⟩, trivial⟩ ?_
  refine sim_ne0 (o := 7) (tg := 14) (f := 10) (by decide +kernel) rfl rfl (fun _ => ?_) (fun _ => ?_)
  · refine sim_seg [(.iconst 2, 0, 0, 2), (.goto 4, 0, 0, 0)] [] (q := 15) (L' := [some (.ref a0)]) (st' := [.int (J 2)]) (v1 := v) (by decide +kernel) rfl trivial ?_
    exact sim_iret (by decide +kernel) rfl rfl rfl
  · refine sim_seg [(.iconst 1, 0, 0, 1)] [] (q := 15) (L' := [some (.ref a0)]) (st' := [.int (J 1)]) (v1 := v) (by decide +kernel) rfl trivial ?_
    exact sim_iret (by decide +kernel) rfl rfl rfl
def B_gm_measuresPeriod : bd := (⟨"GateCounterModel", "measuresPeriod", "()I"⟩, prog_8_method_25_code, 2, (some .int), [], 6, 5)
theorem m_gm_measuresPeriod : mV B_gm_measuresPeriod 6 0 := ⟨⟨⟨by decide +kernel, Or.inl rfl⟩, rfl, (List.mem_of_getElem? (i := 1991) (by decide +kernel)), by decide +kernel, (List.mem_of_getElem? (i := 104) (by decide +kernel)), ⟨by decide, by decide⟩, by decide⟩, rfl, (by unfold nar; decide +kernel), (List.mem_of_getElem? (i := 1990) (by decide +kernel)), rfl, (List.mem_of_getElem? (i := 72) (by decide +kernel))⟩
noncomputable def Y_gm_measuresPeriod_19 (N : Nat)  (i19 : vl → Nat → Int32 → Option (Int32 × vl)) (S : shp) (v : vl) (p0 : Nat) (p1 : Int32) : Option (Int32 × vl) :=
  grd (kin S p0 = some (0, 6)) <| (gr S p0 0).bind fun r7 => grd (kin S r7 = some (1, 199)) <| (if p1 < (gi v r7 6) then (F_gm_countsTo N p0 (J 4) (J 2) S v).bind fun (x10, w11) => (if x10 = (J 0) then (F_gm_lateOrSilent p0 S w11).bind fun x12 => some ((x12, w11)) else i19 w11 p0 (p1 + (J 1))) else (if (gi v p0 13) = (J 0) then some (((J 3), v)) else some (((J 0), v))))
noncomputable def K_gm_measuresPeriod_19 (N : Nat)  (n : Nat) (S : shp) : vl → Nat → Int32 → Option (Int32 × vl) :=
  Nat.rec (motive := fun _ => vl → Nat → Int32 → Option (Int32 × vl)) (fun _ _ _ => none) (fun _ i => Y_gm_measuresPeriod_19 N  i S) n
theorem sY_gm_measuresPeriod_19 (N : Nat)  (i19 : vl → Nat → Int32 → Option (Int32 × vl)) (S : shp)  (j19 : ∀ (v : vl) (p0 : Nat) (p1 : Int32), SimK B_gm_measuresPeriod 19 [some (.ref p0), some (.int p1)] [] S v (i19 v p0 p1) (ρpi S)) (v : vl) (p0 : Nat) (p1 : Int32) : SimK B_gm_measuresPeriod 19 [some (.ref p0), some (.int p1)] [] S v (Y_gm_measuresPeriod_19 N  i19 S v p0 p1) (ρpi S) := by
  unfold Y_gm_measuresPeriod_19
  refine sim_grd fun h6 => ?_
  refine sim_bind fun r7 h8 => ?_
  refine sim_grd fun h9 => ?_
  refine sim_seg [(.iload_n 1, 0, 0, 0), (.aload_n 0, 0, 0, 0), (.getfield 7, 6, 0, 0), (.bipush 6, 0, 0, 6), (.iaload, 0, 0, 0)] [r7] (q := 27) (L' := [some (.ref p0), some (.int p1)]) (st' := [.int (gi v r7 6), .int p1]) (v1 := v) (by decide +kernel) rfl ⟨⟨h6, h8⟩, ⟨(Or.inl (kin_alen h9)), (vin_J h9 (by unfold vp_in; decide))⟩, trivial⟩ ?_
  refine sim_ge (o := 23) (tg := 50) (f := 30) (by decide +kernel) rfl rfl (fun _ => ?_) (fun _ => ?_)
  · refine sim_seg [(.aload_n 0, 0, 0, 0), (.iconst 4, 0, 0, 4), (.iconst 2, 0, 0, 2)] [] (q := 33) (L' := [some (.ref p0), some (.int p1)]) (st' := [.int (J 2), .int (J 4), .ref p0]) (v1 := v) (by decide +kernel) rfl trivial ?_
    refine sc_pi (pc3 := 36) (cf_V (idx := 114) (ci := 6) [.int (J 4), .int (J 2)] m_gm_countsTo (by decide) ⟨by decide, by decide⟩ (List.mem_of_getElem? (i := 2000) (by decide +kernel)) rfl (Nat.le_of_ble_eq_true rfl) h6 (by decide +kernel) (Nat.le_of_ble_eq_true rfl) rfl) (ok_gm_countsTo N p0 (J 4) (J 2) S v) rfl (fun x10 w11 => ?_)
    refine sim_ne0 (o := 8) (tg := 44) (f := 39) (by decide +kernel) rfl rfl (fun _ => ?_) (fun _ => ?_)
    · refine sim_seg [(.aload_n 0, 0, 0, 0)] [] (q := 40) (L' := [some (.ref p0), some (.int p1)]) (st' := [.ref p0]) (v1 := w11) (by decide +kernel) rfl trivial ?_
      refine sc_ri (pc3 := 43) (cf_V (idx := 118) (ci := 6) [] m_gm_lateOrSilent (by decide) ⟨by decide, by decide⟩ (List.mem_of_getElem? (i := 1992) (by decide +kernel)) rfl (Nat.le_of_ble_eq_true rfl) h6 (by decide +kernel) (Nat.le_of_ble_eq_true rfl) rfl) (ok_gm_lateOrSilent p0 S w11) rfl (fun x12 => ?_)
      exact sim_iret (by decide +kernel) rfl rfl rfl
    · refine sim_seg [(.iinc 1 1, 0, 0, 1)] [] (q := 47) (L' := [some (.ref p0), some (.int (p1 + (J 1)))]) (st' := []) (v1 := w11) (by decide +kernel) rfl trivial ?_
      refine sim_seg [(.goto (-28), 0, 0, 0)] [] (q := 19) (L' := [some (.ref p0), some (.int (p1 + (J 1)))]) (st' := []) (v1 := w11) (by decide +kernel) rfl trivial ?_
      exact j19 w11 p0 (p1 + (J 1))
  · refine sim_seg [(.aload_n 0, 0, 0, 0), (.getfield 96, 6, 13, 0)] [] (q := 54) (L' := [some (.ref p0), some (.int p1)]) (st' := [.int (gi v p0 13)]) (v1 := v) (by decide +kernel) rfl ⟨h6, trivial⟩ ?_
    refine sim_ne0 (o := 7) (tg := 61) (f := 57) (by decide +kernel) rfl rfl (fun _ => ?_) (fun _ => ?_)
    · refine sim_seg [(.iconst 3, 0, 0, 3), (.goto 4, 0, 0, 0)] [] (q := 62) (L' := [some (.ref p0), some (.int p1)]) (st' := [.int (J 3)]) (v1 := v) (by decide +kernel) rfl trivial ?_
      exact sim_iret (by decide +kernel) rfl rfl rfl
    · refine sim_seg [(.iconst 0, 0, 0, 0)] [] (q := 62) (L' := [some (.ref p0), some (.int p1)]) (st' := [.int (J 0)]) (v1 := v) (by decide +kernel) rfl trivial ?_
      exact sim_iret (by decide +kernel) rfl rfl rfl
theorem sR_gm_measuresPeriod_19 (N : Nat)  (S : shp)  (n : Nat) : ∀ (v : vl) (p0 : Nat) (p1 : Int32), SimK B_gm_measuresPeriod 19 [some (.ref p0), some (.int p1)] [] S v (K_gm_measuresPeriod_19 N  n S v p0 p1) (ρpi S) := by
  induction n with
  | zero => intro v p0 p1; exact sim_none
  | succ k ih => intro v p0 p1; exact sY_gm_measuresPeriod_19 N   _ S  ih v p0 p1
theorem sK_gm_measuresPeriod_19 (N : Nat)  (n : Nat) (S : shp) (v : vl) (p0 : Nat) (p1 : Int32) : SimK B_gm_measuresPeriod 19 [some (.ref p0), some (.int p1)] [] S v (K_gm_measuresPeriod_19 N  n S v p0 p1) (ρpi S) := sR_gm_measuresPeriod_19 N   S  n  v p0 p1
noncomputable def F_gm_measuresPeriod (N : Nat) (a0 : Nat) (S : shp) (v : vl) : Option (Int32 × vl) :=
  grd (kin S a0 = some (0, 6)) <| (F_gm_waitsFor N a0 (J 4) S v).bind fun (x2, w3) => (if x2 = (J 0) then (F_gm_lateOrSilent a0 S w3).bind fun x4 => some ((x4, w3)) else (F_gm_beginsNow a0 S w3).bind fun w5 => K_gm_measuresPeriod_19 N  N S w5 a0 (J 0))
theorem ok_gm_measuresPeriod (N : Nat) (a0 : Nat) (S : shp) (v : vl) : SimK B_gm_measuresPeriod 0 (entB (bN B_gm_measuresPeriod) [.ref a0]) [] S v (F_gm_measuresPeriod N a0 S v) (ρpi S) := by
  show SimK B_gm_measuresPeriod 0 [some (.ref a0), none] [] S v (F_gm_measuresPeriod N a0 S v) _
  unfold F_gm_measuresPeriod
  refine sim_seg [(.aload_n 0, 0, 0, 0), (.iconst 4, 0, 0, 4)] [] (q := 2) (L' := [some (.ref a0), none]) (st' := [.int (J 4), .ref a0]) (v1 := v) (by decide +kernel) rfl trivial ?_
  refine sim_grd fun h1 => ?_
  refine sc_pi (pc3 := 5) (cf_V (idx := 108) (ci := 6) [.int (J 4)] m_gm_waitsFor (by decide) ⟨by decide, by decide⟩ (List.mem_of_getElem? (i := 1939) (by decide +kernel)) rfl (Nat.le_of_ble_eq_true rfl) h1 (by decide +kernel) (Nat.le_of_ble_eq_true rfl) rfl) (ok_gm_waitsFor N a0 (J 4) S v) rfl (fun x2 w3 => ?_)
  refine sim_ne0 (o := 8) (tg := 13) (f := 8) (by decide +kernel) rfl rfl (fun _ => ?_) (fun _ => ?_)
  · refine sim_seg [(.aload_n 0, 0, 0, 0)] [] (q := 9) (L' := [some (.ref a0), none]) (st' := [.ref a0]) (v1 := w3) (by decide +kernel) rfl trivial ?_
    refine sc_ri (pc3 := 12) (cf_V (idx := 118) (ci := 6) [] m_gm_lateOrSilent (by decide) ⟨by decide, by decide⟩ (List.mem_of_getElem? (i := 1992) (by decide +kernel)) rfl (Nat.le_of_ble_eq_true rfl) h1 (by decide +kernel) (Nat.le_of_ble_eq_true rfl) rfl) (ok_gm_lateOrSilent a0 S w3) rfl (fun x4 => ?_)
    exact sim_iret (by decide +kernel) rfl rfl rfl
  · refine sim_seg [(.aload_n 0, 0, 0, 0)] [] (q := 14) (L' := [some (.ref a0), none]) (st' := [.ref a0]) (v1 := w3) (by decide +kernel) rfl trivial ?_
    refine sc_pv (pc3 := 17) (cf_V (idx := 111) (ci := 6) [] m_gm_beginsNow (by decide) ⟨by decide, by decide⟩ (List.mem_of_getElem? (i := 1996) (by decide +kernel)) rfl (Nat.le_of_ble_eq_true rfl) h1 (by decide +kernel) (Nat.le_of_ble_eq_true rfl) rfl) (ok_gm_beginsNow a0 S w3) rfl (fun w5 => ?_)
    refine sim_seg [(.iconst 0, 0, 0, 0), (.istore_n 1, 0, 0, 0)] [] (q := 19) (L' := [some (.ref a0), some (.int (J 0))]) (st' := []) (v1 := w5) (by decide +kernel) rfl trivial ?_
    exact sK_gm_measuresPeriod_19 N N S w5 a0 (J 0)
def B_gm_measures : bd := (⟨"GateCounterModel", "measures", "(Z)I"⟩, prog_8_method_26_code, 2, (some .int), [], 6, 6)
theorem m_gm_measures : mV B_gm_measures 6 1 := ⟨⟨⟨by decide +kernel, Or.inl rfl⟩, rfl, (List.mem_of_getElem? (i := 1987) (by decide +kernel)), by decide +kernel, (List.mem_of_getElem? (i := 104) (by decide +kernel)), ⟨by decide, by decide⟩, by decide⟩, rfl, (by unfold nar; decide +kernel), (List.mem_of_getElem? (i := 1986) (by decide +kernel)), rfl, (List.mem_of_getElem? (i := 71) (by decide +kernel))⟩
noncomputable def F_gm_measures (N : Nat) (a0 : Nat) (b1 : Int32) (S : shp) (v : vl) : Option (Int32 × vl) :=
  (if b1 = (J 0) then grd (kin S a0 = some (0, 6)) <| (F_gm_measuresGate N a0 S v).bind fun (x2, w3) => some ((x2, w3)) else grd (kin S a0 = some (0, 6)) <| (F_gm_measuresPeriod N a0 S v).bind fun (x5, w6) => some ((x5, w6)))
theorem ok_gm_measures (N : Nat) (a0 : Nat) (b1 : Int32) (S : shp) (v : vl) : SimK B_gm_measures 0 (entB (bN B_gm_measures) [.ref a0, .int b1]) [] S v (F_gm_measures N a0 b1 S v) (ρpi S) := by
  show SimK B_gm_measures 0 [some (.ref a0), some (.int b1)] [] S v (F_gm_measures N a0 b1 S v) _
  unfold F_gm_measures
  refine sim_seg [(.iload_n 1, 0, 0, 0)] [] (q := 1) (L' := [some (.ref a0), some (.int b1)]) (st' := [.int b1]) (v1 := v) (by decide +kernel) rfl trivial ?_
  refine sim_eq0 (o := 10) (tg := 11) (f := 4) (by decide +kernel) rfl rfl (fun _ => ?_) (fun _ => ?_)
  · refine sim_seg [(.aload_n 0, 0, 0, 0)] [] (q := 12) (L' := [some (.ref a0), some (.int b1)]) (st' := [.ref a0]) (v1 := v) (by decide +kernel) rfl trivial ?_
    refine sim_grd fun h1 => ?_
    refine sc_pi (pc3 := 15) (cf_V (idx := 125) (ci := 6) [] m_gm_measuresGate (by decide) ⟨by decide, by decide⟩ (List.mem_of_getElem? (i := 2004) (by decide +kernel)) rfl (Nat.le_of_ble_eq_true rfl) h1 (by decide +kernel) (Nat.le_of_ble_eq_true rfl) rfl) (ok_gm_measuresGate N a0 S v) rfl (fun x2 w3 => ?_)
    exact sim_iret (by decide +kernel) rfl rfl rfl
  · refine sim_seg [(.aload_n 0, 0, 0, 0)] [] (q := 5) (L' := [some (.ref a0), some (.int b1)]) (st' := [.ref a0]) (v1 := v) (by decide +kernel) rfl trivial ?_
    refine sim_grd fun h4 => ?_
    refine sc_pi (pc3 := 8) (cf_V (idx := 122) (ci := 6) [] m_gm_measuresPeriod (by decide) ⟨by decide, by decide⟩ (List.mem_of_getElem? (i := 1988) (by decide +kernel)) rfl (Nat.le_of_ble_eq_true rfl) h4 (by decide +kernel) (Nat.le_of_ble_eq_true rfl) rfl) (ok_gm_measuresPeriod N a0 S v) rfl (fun x5 w6 => ?_)
    refine sim_seg [(.goto 7, 0, 0, 0)] [] (q := 15) (L' := [some (.ref a0), some (.int b1)]) (st' := [.int x5]) (v1 := w6) (by decide +kernel) rfl trivial ?_
    exact sim_iret (by decide +kernel) rfl rfl rfl
def B_gm_digitsOf : bd := (⟨"GateCounterModel", "digitsOf", "(I)I"⟩, prog_8_method_31_code, 3, (some .int), [], 6, 0)
theorem m_gm_digitsOf : mS B_gm_digitsOf 1 := ⟨⟨⟨by decide +kernel, Or.inl rfl⟩, rfl, (List.mem_of_getElem? (i := 2031) (by decide +kernel)), by decide +kernel, (List.mem_of_getElem? (i := 104) (by decide +kernel)), ⟨by decide, by decide⟩, by decide⟩, rfl, (by unfold nar; decide +kernel), (List.mem_of_getElem? (i := 2030) (by decide +kernel))⟩
noncomputable def Y_gm_digitsOf_4 (N : Nat)  (i4 : Int32 → Int32 → Option Int32) (S : shp) (v : vl)  (p1 : Int32) (p2 : Int32) : Option Int32 :=
  (if (J 0) < p2 then i4 (p1 + (J 1)) (p2 / (J 10)) else some (p1))
noncomputable def K_gm_digitsOf_4 (N : Nat)  (n : Nat) (S : shp) (v : vl) : Int32 → Int32 → Option Int32 :=
  Nat.rec (motive := fun _ => Int32 → Int32 → Option Int32) (fun _ _ => none) (fun _ i => Y_gm_digitsOf_4 N  i S v) n
theorem sY_gm_digitsOf_4 (N : Nat)  (i4 : Int32 → Int32 → Option Int32) (S : shp) (v : vl)  (j4 : ∀ (p1 : Int32) (p2 : Int32), SimK B_gm_digitsOf 4 [none, some (.int p1), some (.int p2)] [] S v (i4 p1 p2) (ρri S v))  (p1 : Int32) (p2 : Int32) : SimK B_gm_digitsOf 4 [none, some (.int p1), some (.int p2)] [] S v (Y_gm_digitsOf_4 N  i4 S v  p1 p2) (ρri S v) := by
  unfold Y_gm_digitsOf_4
  refine sim_seg [(.iload_n 2, 0, 0, 0)] [] (q := 5) (L' := [none, some (.int p1), some (.int p2)]) (st' := [.int p2]) (v1 := v) (by decide +kernel) rfl trivial ?_
  refine sim_le0 (o := 14) (tg := 19) (f := 8) (by decide +kernel) rfl rfl (fun _ => ?_) (fun _ => ?_)
  · refine sim_seg [(.iinc 1 1, 0, 0, 1)] [] (q := 11) (L' := [none, some (.int (p1 + (J 1))), some (.int p2)]) (st' := []) (v1 := v) (by decide +kernel) rfl trivial ?_
    refine sim_seg [(.iload_n 2, 0, 0, 0), (.bipush 10, 0, 0, 10), (.idiv, 0, 0, 0), (.istore_n 2, 0, 0, 0)] [] (q := 16) (L' := [none, some (.int (p1 + (J 1))), some (.int (p2 / (J 10)))]) (st' := []) (v1 := v) (by decide +kernel) rfl ⟨(by decide), trivial⟩ ?_
    refine sim_seg [(.goto (-12), 0, 0, 0)] [] (q := 4) (L' := [none, some (.int (p1 + (J 1))), some (.int (p2 / (J 10)))]) (st' := []) (v1 := v) (by decide +kernel) rfl trivial ?_
    exact j4 (p1 + (J 1)) (p2 / (J 10))
  · refine sim_seg [(.iload_n 1, 0, 0, 0)] [] (q := 20) (L' := [none, some (.int p1), some (.int p2)]) (st' := [.int p1]) (v1 := v) (by decide +kernel) rfl trivial ?_
    exact sim_iret (by decide +kernel) rfl rfl rfl
theorem sR_gm_digitsOf_4 (N : Nat)  (S : shp) (v : vl)  (n : Nat) : ∀  (p1 : Int32) (p2 : Int32), SimK B_gm_digitsOf 4 [none, some (.int p1), some (.int p2)] [] S v (K_gm_digitsOf_4 N  n S v  p1 p2) (ρri S v) := by
  induction n with
  | zero => intro p1 p2; exact sim_none
  | succ k ih => intro p1 p2; exact sY_gm_digitsOf_4 N   _ S v  ih p1 p2
theorem sK_gm_digitsOf_4 (N : Nat)  (n : Nat) (S : shp) (v : vl) (p1 : Int32) (p2 : Int32) : SimK B_gm_digitsOf 4 [none, some (.int p1), some (.int p2)] [] S v (K_gm_digitsOf_4 N  n S v  p1 p2) (ρri S v) := sR_gm_digitsOf_4 N   S v  n  p1 p2
noncomputable def F_gm_digitsOf (N : Nat) (b0 : Int32) (S : shp) (v : vl) : Option Int32 :=
  K_gm_digitsOf_4 N  N S v (J 0) b0
theorem ok_gm_digitsOf (N : Nat) (b0 : Int32) (S : shp) (v : vl) : SimK B_gm_digitsOf 0 (entB (bN B_gm_digitsOf) [.int b0]) [] S v (F_gm_digitsOf N b0 S v) (ρri S v) := by
  show SimK B_gm_digitsOf 0 [some (.int b0), none, none] [] S v (F_gm_digitsOf N b0 S v) _
  unfold F_gm_digitsOf
  refine sim_seg [(.iconst 0, 0, 0, 0), (.istore_n 1, 0, 0, 0)] [] (q := 2) (L' := [some (.int b0), some (.int (J 0)), none]) (st' := []) (v1 := v) (by decide +kernel) rfl trivial ?_
  refine sim_seg [(.iload_n 0, 0, 0, 0), (.istore_n 2, 0, 0, 0)] [] (q := 4) (L' := [some (.int b0), some (.int (J 0)), some (.int b0)]) (st' := []) (v1 := v) (by decide +kernel) rfl trivial ?_
  exact sim_wk (L0 := [none, some (.int (J 0)), some (.int b0)]) ⟨rfl, rfl, trivial⟩ (sK_gm_digitsOf_4 N N S v (J 0) b0)
def B_gm_valueOf : bd := (⟨"GateCounterModel", "valueOf", "(JII)I"⟩, prog_8_method_27_code, 7, (some .int), [], 6, 0)
theorem m_gm_valueOf : mV B_gm_valueOf 6 3 := ⟨⟨⟨by decide +kernel, Or.inl rfl⟩, rfl, (List.mem_of_getElem? (i := 2023) (by decide +kernel)), by decide +kernel, (List.mem_of_getElem? (i := 104) (by decide +kernel)), ⟨by decide, by decide⟩, by decide⟩, rfl, (by unfold nar; decide +kernel), (List.mem_of_getElem? (i := 2022) (by decide +kernel)), rfl, (List.mem_of_getElem? (i := 80) (by decide +kernel))⟩
noncomputable def F_gm_valueOf (a0 : Nat) (c1 : Int64) (b2 : Int32) (b3 : Int32) (S : shp) (v : vl) : Option Int32 :=
  grd (kin S a0 = some (0, 6)) <| (gr S a0 0).bind fun r2 => grd (kin S r2 = some (1, 199)) <| lt (((Int32.toInt64 b2) * (Int32.toInt64 (gi v r2 1))) * (Int32.toInt64 ((J 1000) + b3))) fun y5 => grd (¬ y5 = 0) <| some ((Int64.toInt32 ((c1 * (JL 1000000000)) / y5)))
theorem ok_gm_valueOf (a0 : Nat) (c1 : Int64) (b2 : Int32) (b3 : Int32) (S : shp) (v : vl) : SimK B_gm_valueOf 0 (entB (bN B_gm_valueOf) [.ref a0, .long c1, .int b2, .int b3]) [] S v (F_gm_valueOf a0 c1 b2 b3 S v) (ρri S v) := by
  show SimK B_gm_valueOf 0 [some (.ref a0), some (.long c1), none, some (.int b2), some (.int b3), none, none] [] S v (F_gm_valueOf a0 c1 b2 b3 S v) _
  unfold F_gm_valueOf
  refine sim_grd fun h1 => ?_
  refine sim_bind fun r2 h3 => ?_
  refine sim_grd fun h4 => ?_
  refine sim_seg [(.iload_n 3, 0, 0, 0), (.i2l, 0, 0, 0), (.aload_n 0, 0, 0, 0), (.getfield 7, 6, 0, 0), (.iconst 1, 0, 0, 1), (.iaload, 0, 0, 0), (.i2l, 0, 0, 0), (.lmul, 0, 0, 0), (.sipush 1000, 0, 0, 1000), (.iload 4, 0, 0, 0), (.iadd, 0, 0, 0), (.i2l, 0, 0, 0)] [r2] (q := 17) (L' := [some (.ref a0), some (.long c1), none, some (.int b2), some (.int b3), none, none]) (st' := [.long (Int32.toInt64 ((J 1000) + b3)), .long ((Int32.toInt64 b2) * (Int32.toInt64 (gi v r2 1)))]) (v1 := v) (by decide +kernel) rfl ⟨⟨h1, h3⟩, ⟨(Or.inl (kin_alen h4)), (vin_J h4 (by unfold vp_in; decide))⟩, trivial⟩ ?_
  refine sim_seg [(.lmul, 0, 0, 0), (.lstore 5, 0, 0, 0)] [] (q := 20) (L' := [some (.ref a0), some (.long c1), none, some (.int b2), some (.int b3), some (.long (((Int32.toInt64 b2) * (Int32.toInt64 (gi v r2 1))) * (Int32.toInt64 ((J 1000) + b3)))), none]) (st' := []) (v1 := v) (by decide +kernel) rfl trivial ?_
  refine sim_nm (((Int32.toInt64 b2) * (Int32.toInt64 (gi v r2 1))) * (Int32.toInt64 ((J 1000) + b3))) (fun y5 => [some (.ref a0), some (.long c1), none, some (.int b2), some (.int b3), some (.long y5), none]) (fun y5 => []) (fun y5 => ?_) rfl rfl
  refine sim_grd fun h6 => ?_
  refine sim_seg [(.lload_n 1, 0, 0, 0), (.ldc2_w 128, 0, 0, 1000000000), (.lmul, 0, 0, 0), (.lload 5, 0, 0, 0), (.ldiv, 0, 0, 0), (.l2i, 0, 0, 0)] [] (q := 29) (L' := [some (.ref a0), some (.long c1), none, some (.int b2), some (.int b3), some (.long y5), none]) (st' := [.int (Int64.toInt32 ((c1 * (JL 1000000000)) / y5))]) (v1 := v) (by decide +kernel) rfl ⟨h6, trivial⟩ ?_
  exact sim_iret (by decide +kernel) rfl rfl rfl
def B_gm_gateValue : bd := (⟨"GateCounterModel", "gateValue", "(III)I"⟩, prog_8_method_28_code, 4, (some .int), [], 6, 1)
theorem m_gm_gateValue : mV B_gm_gateValue 6 3 := ⟨⟨⟨by decide +kernel, Or.inl rfl⟩, rfl, (List.mem_of_getElem? (i := 2028) (by decide +kernel)), by decide +kernel, (List.mem_of_getElem? (i := 104) (by decide +kernel)), ⟨by decide, by decide⟩, by decide⟩, rfl, (by unfold nar; decide +kernel), (List.mem_of_getElem? (i := 2027) (by decide +kernel)), rfl, (List.mem_of_getElem? (i := 81) (by decide +kernel))⟩
noncomputable def F_gm_gateValue (a0 : Nat) (b1 : Int32) (b2 : Int32) (b3 : Int32) (S : shp) (v : vl) : Option Int32 :=
  grd (kin S a0 = some (0, 6)) <| (gr S a0 0).bind fun r2 => grd (kin S r2 = some (1, 199)) <| (F_gm_valueOf a0 ((Int32.toInt64 b1) * (Int32.toInt64 (gi v r2 4))) b2 b3 S v).bind fun x5 => some (x5)
theorem ok_gm_gateValue (a0 : Nat) (b1 : Int32) (b2 : Int32) (b3 : Int32) (S : shp) (v : vl) : SimK B_gm_gateValue 0 (entB (bN B_gm_gateValue) [.ref a0, .int b1, .int b2, .int b3]) [] S v (F_gm_gateValue a0 b1 b2 b3 S v) (ρri S v) := by
  show SimK B_gm_gateValue 0 [some (.ref a0), some (.int b1), some (.int b2), some (.int b3)] [] S v (F_gm_gateValue a0 b1 b2 b3 S v) _
  unfold F_gm_gateValue
  refine sim_grd fun h1 => ?_
  refine sim_bind fun r2 h3 => ?_
  refine sim_grd fun h4 => ?_
  refine sim_seg [(.aload_n 0, 0, 0, 0), (.iload_n 1, 0, 0, 0), (.i2l, 0, 0, 0), (.aload_n 0, 0, 0, 0), (.getfield 7, 6, 0, 0), (.iconst 4, 0, 0, 4), (.iaload, 0, 0, 0), (.i2l, 0, 0, 0), (.lmul, 0, 0, 0), (.iload_n 2, 0, 0, 0), (.iload_n 3, 0, 0, 0)] [r2] (q := 13) (L' := [some (.ref a0), some (.int b1), some (.int b2), some (.int b3)]) (st' := [.int b3, .int b2, .long ((Int32.toInt64 b1) * (Int32.toInt64 (gi v r2 4))), .ref a0]) (v1 := v) (by decide +kernel) rfl ⟨⟨h1, h3⟩, ⟨(Or.inl (kin_alen h4)), (vin_J h4 (by unfold vp_in; decide))⟩, trivial⟩ ?_
  refine sc_ri (pc3 := 16) (cf_V (idx := 130) (ci := 6) [.long ((Int32.toInt64 b1) * (Int32.toInt64 (gi v r2 4))), .int b2, .int b3] m_gm_valueOf (by decide) ⟨by decide, by decide⟩ (List.mem_of_getElem? (i := 2020) (by decide +kernel)) rfl (Nat.le_of_ble_eq_true rfl) h1 (by decide +kernel) (Nat.le_of_ble_eq_true rfl) rfl) (ok_gm_valueOf a0 ((Int32.toInt64 b1) * (Int32.toInt64 (gi v r2 4))) b2 b3 S v) rfl (fun x5 => ?_)
  exact sim_iret (by decide +kernel) rfl rfl rfl
def B_gm_periodValue : bd := (⟨"GateCounterModel", "periodValue", "(III)I"⟩, prog_8_method_29_code, 4, (some .int), [], 6, 1)
theorem m_gm_periodValue : mV B_gm_periodValue 6 3 := ⟨⟨⟨by decide +kernel, Or.inl rfl⟩, rfl, (List.mem_of_getElem? (i := 2019) (by decide +kernel)), by decide +kernel, (List.mem_of_getElem? (i := 104) (by decide +kernel)), ⟨by decide, by decide⟩, by decide⟩, rfl, (by unfold nar; decide +kernel), (List.mem_of_getElem? (i := 2018) (by decide +kernel)), rfl, (List.mem_of_getElem? (i := 79) (by decide +kernel))⟩
noncomputable def F_gm_periodValue (a0 : Nat) (b1 : Int32) (b2 : Int32) (b3 : Int32) (S : shp) (v : vl) : Option Int32 :=
  grd (kin S a0 = some (0, 6)) <| (gr S a0 0).bind fun r2 => grd (kin S r2 = some (1, 199)) <| (F_gm_valueOf a0 ((Int32.toInt64 b2) * (Int32.toInt64 (gi v r2 4))) b1 b3 S v).bind fun x5 => some (x5)
theorem ok_gm_periodValue (a0 : Nat) (b1 : Int32) (b2 : Int32) (b3 : Int32) (S : shp) (v : vl) : SimK B_gm_periodValue 0 (entB (bN B_gm_periodValue) [.ref a0, .int b1, .int b2, .int b3]) [] S v (F_gm_periodValue a0 b1 b2 b3 S v) (ρri S v) := by
  show SimK B_gm_periodValue 0 [some (.ref a0), some (.int b1), some (.int b2), some (.int b3)] [] S v (F_gm_periodValue a0 b1 b2 b3 S v) _
  unfold F_gm_periodValue
  refine sim_grd fun h1 => ?_
  refine sim_bind fun r2 h3 => ?_
  refine sim_grd fun h4 => ?_
  refine sim_seg [(.aload_n 0, 0, 0, 0), (.iload_n 2, 0, 0, 0), (.i2l, 0, 0, 0), (.aload_n 0, 0, 0, 0), (.getfield 7, 6, 0, 0), (.iconst 4, 0, 0, 4), (.iaload, 0, 0, 0), (.i2l, 0, 0, 0), (.lmul, 0, 0, 0), (.iload_n 1, 0, 0, 0), (.iload_n 3, 0, 0, 0)] [r2] (q := 13) (L' := [some (.ref a0), some (.int b1), some (.int b2), some (.int b3)]) (st' := [.int b3, .int b1, .long ((Int32.toInt64 b2) * (Int32.toInt64 (gi v r2 4))), .ref a0]) (v1 := v) (by decide +kernel) rfl ⟨⟨h1, h3⟩, ⟨(Or.inl (kin_alen h4)), (vin_J h4 (by unfold vp_in; decide))⟩, trivial⟩ ?_
  refine sc_ri (pc3 := 16) (cf_V (idx := 130) (ci := 6) [.long ((Int32.toInt64 b2) * (Int32.toInt64 (gi v r2 4))), .int b1, .int b3] m_gm_valueOf (by decide) ⟨by decide, by decide⟩ (List.mem_of_getElem? (i := 2020) (by decide +kernel)) rfl (Nat.le_of_ble_eq_true rfl) h1 (by decide +kernel) (Nat.le_of_ble_eq_true rfl) rfl) (ok_gm_valueOf a0 ((Int32.toInt64 b2) * (Int32.toInt64 (gi v r2 4))) b1 b3 S v) rfl (fun x5 => ?_)
  exact sim_iret (by decide +kernel) rfl rfl rfl
def B_gm_madeValue : bd := (⟨"GateCounterModel", "madeValue", "(Z)I"⟩, prog_8_method_30_code, 2, (some .int), [], 6, 2)
theorem m_gm_madeValue : mV B_gm_madeValue 6 1 := ⟨⟨⟨by decide +kernel, Or.inl rfl⟩, rfl, (List.mem_of_getElem? (i := 2015) (by decide +kernel)), by decide +kernel, (List.mem_of_getElem? (i := 104) (by decide +kernel)), ⟨by decide, by decide⟩, by decide⟩, rfl, (by unfold nar; decide +kernel), (List.mem_of_getElem? (i := 2014) (by decide +kernel)), rfl, (List.mem_of_getElem? (i := 78) (by decide +kernel))⟩
noncomputable def F_gm_madeValue (a0 : Nat) (b1 : Int32) (S : shp) (v : vl) : Option Int32 :=
  (if b1 = (J 0) then grd (kin S a0 = some (0, 6)) <| (gr S a0 0).bind fun r2 => grd (kin S r2 = some (1, 199)) <| (F_gm_gateValue a0 (gi v a0 13) (gi v r2 5) (gi v r2 7) S v).bind fun x5 => some (x5) else grd (kin S a0 = some (0, 6)) <| (gr S a0 0).bind fun r7 => grd (kin S r7 = some (1, 199)) <| (F_gm_periodValue a0 (gi v a0 13) (gi v r7 6) (gi v r7 7) S v).bind fun x10 => some (x10))
theorem ok_gm_madeValue (a0 : Nat) (b1 : Int32) (S : shp) (v : vl) : SimK B_gm_madeValue 0 (entB (bN B_gm_madeValue) [.ref a0, .int b1]) [] S v (F_gm_madeValue a0 b1 S v) (ρri S v) := by
  show SimK B_gm_madeValue 0 [some (.ref a0), some (.int b1)] [] S v (F_gm_madeValue a0 b1 S v) _
  unfold F_gm_madeValue
  refine sim_seg [(.iload_n 1, 0, 0, 0)] [] (q := 1) (L' := [some (.ref a0), some (.int b1)]) (st' := [.int b1]) (v1 := v) (by decide +kernel) rfl trivial ?_
  refine sim_eq0 (o := 28) (tg := 29) (f := 4) (by decide +kernel) rfl rfl (fun _ => ?_) (fun _ => ?_)
  · refine sim_grd fun h1 => ?_
    refine sim_bind fun r2 h3 => ?_
    refine sim_grd fun h4 => ?_
    refine sim_seg [(.aload_n 0, 0, 0, 0), (.aload_n 0, 0, 0, 0), (.getfield 96, 6, 13, 0), (.aload_n 0, 0, 0, 0), (.getfield 7, 6, 0, 0), (.iconst 5, 0, 0, 5), (.iaload, 0, 0, 0), (.aload_n 0, 0, 0, 0), (.getfield 7, 6, 0, 0), (.bipush 7, 0, 0, 7), (.iaload, 0, 0, 0)] [r2, r2] (q := 47) (L' := [some (.ref a0), some (.int b1)]) (st' := [.int (gi v r2 7), .int (gi v r2 5), .int (gi v a0 13), .ref a0]) (v1 := v) (by decide +kernel) rfl ⟨h1, ⟨h1, h3⟩, ⟨(Or.inl (kin_alen h4)), (vin_J h4 (by unfold vp_in; decide))⟩, ⟨h1, h3⟩, ⟨(Or.inl (kin_alen h4)), (vin_J h4 (by unfold vp_in; decide))⟩, trivial⟩ ?_
    refine sc_ri (pc3 := 50) (cf_V (idx := 138) (ci := 6) [.int (gi v a0 13), .int (gi v r2 5), .int (gi v r2 7)] m_gm_gateValue (by decide) ⟨by decide, by decide⟩ (List.mem_of_getElem? (i := 2025) (by decide +kernel)) rfl (Nat.le_of_ble_eq_true rfl) h1 (by decide +kernel) (Nat.le_of_ble_eq_true rfl) rfl) (ok_gm_gateValue a0 (gi v a0 13) (gi v r2 5) (gi v r2 7) S v) rfl (fun x5 => ?_)
    exact sim_iret (by decide +kernel) rfl rfl rfl
  · refine sim_grd fun h6 => ?_
    refine sim_bind fun r7 h8 => ?_
    refine sim_grd fun h9 => ?_
    refine sim_seg [(.aload_n 0, 0, 0, 0), (.aload_n 0, 0, 0, 0), (.getfield 96, 6, 13, 0), (.aload_n 0, 0, 0, 0), (.getfield 7, 6, 0, 0), (.bipush 6, 0, 0, 6), (.iaload, 0, 0, 0), (.aload_n 0, 0, 0, 0), (.getfield 7, 6, 0, 0), (.bipush 7, 0, 0, 7), (.iaload, 0, 0, 0)] [r7, r7] (q := 23) (L' := [some (.ref a0), some (.int b1)]) (st' := [.int (gi v r7 7), .int (gi v r7 6), .int (gi v a0 13), .ref a0]) (v1 := v) (by decide +kernel) rfl ⟨h6, ⟨h6, h8⟩, ⟨(Or.inl (kin_alen h9)), (vin_J h9 (by unfold vp_in; decide))⟩, ⟨h6, h8⟩, ⟨(Or.inl (kin_alen h9)), (vin_J h9 (by unfold vp_in; decide))⟩, trivial⟩ ?_
    refine sc_ri (pc3 := 26) (cf_V (idx := 134) (ci := 6) [.int (gi v a0 13), .int (gi v r7 6), .int (gi v r7 7)] m_gm_periodValue (by decide) ⟨by decide, by decide⟩ (List.mem_of_getElem? (i := 2016) (by decide +kernel)) rfl (Nat.le_of_ble_eq_true rfl) h6 (by decide +kernel) (Nat.le_of_ble_eq_true rfl) rfl) (ok_gm_periodValue a0 (gi v a0 13) (gi v r7 6) (gi v r7 7) S v) rfl (fun x10 => ?_)
    refine sim_seg [(.goto 24, 0, 0, 0)] [] (q := 50) (L' := [some (.ref a0), some (.int b1)]) (st' := [.int x10]) (v1 := v) (by decide +kernel) rfl trivial ?_
    exact sim_iret (by decide +kernel) rfl rfl rfl
def B_gm_told : bd := (⟨"GateCounterModel", "told", "(ZI)I"⟩, prog_8_method_32_code, 3, (some .int), [], 6, 3)
theorem m_gm_told : mV B_gm_told 6 2 := ⟨⟨⟨by decide +kernel, Or.inl rfl⟩, rfl, (List.mem_of_getElem? (i := 2011) (by decide +kernel)), by decide +kernel, (List.mem_of_getElem? (i := 104) (by decide +kernel)), ⟨by decide, by decide⟩, by decide⟩, rfl, (by unfold nar; decide +kernel), (List.mem_of_getElem? (i := 2010) (by decide +kernel)), rfl, (List.mem_of_getElem? (i := 77) (by decide +kernel))⟩
noncomputable def F_gm_told (N : Nat) (a0 : Nat) (b1 : Int32) (b2 : Int32) (S : shp) (v : vl) : Option Int32 :=
  (if b2 = J 0 then (if b1 = (J 0) then some ((J 0)) else some ((J 1))) else if b2 = J 1 then grd (kin S a0 = some (0, 6)) <| some ((gi v a0 11)) else if b2 = J 2 then grd (kin S a0 = some (0, 6)) <| some ((gi v a0 12)) else if b2 = J 3 then grd (kin S a0 = some (0, 6)) <| some ((gi v a0 13)) else if b2 = J 4 then grd (kin S a0 = some (0, 6)) <| (F_gm_madeValue a0 b1 S v).bind fun x9 => some (x9) else if b2 = J 5 then grd (kin S a0 = some (0, 6)) <| (F_gm_digitsOf N (gi v a0 13) S v).bind fun x12 => some (x12) else if b2 = J 6 then (if b1 = (J 0) then grd (kin S a0 = some (0, 6)) <| (gr S a0 0).bind fun r15 => grd (kin S r15 = some (1, 199)) <| some ((gi v r15 5)) else grd (kin S a0 = some (0, 6)) <| (gr S a0 0).bind fun r19 => grd (kin S r19 = some (1, 199)) <| some ((gi v r19 6))) else grd (kin S a0 = some (0, 6)) <| (gr S a0 0).bind fun r24 => grd (kin S r24 = some (1, 199)) <| some ((gi v r24 7)))
theorem ok_gm_told (N : Nat) (a0 : Nat) (b1 : Int32) (b2 : Int32) (S : shp) (v : vl) : SimK B_gm_told 0 (entB (bN B_gm_told) [.ref a0, .int b1, .int b2]) [] S v (F_gm_told N a0 b1 b2 S v) (ρri S v) := by
  show SimK B_gm_told 0 [some (.ref a0), some (.int b1), some (.int b2)] [] S v (F_gm_told N a0 b1 b2 S v) _
  unfold F_gm_told
  refine sim_seg [(.iload_n 2, 0, 0, 0)] [] (q := 1) (L' := [some (.ref a0), some (.int b1), some (.int b2)]) (st' := [.int b2]) (v1 := v) (by decide +kernel) rfl trivial ?_
  refine sim_case (df := 103) (lw := 0) (hg := 6) (offs := #[43, 53, 58, 63, 68, 74, 82]) (len := 43) (z := 0) (o := 43) (tg := 44) (by decide +kernel) rfl rfl (by decide) (fun _ => ?_) (fun h1 => ?_)
  · refine sim_seg [(.iload_n 1, 0, 0, 0)] [] (q := 45) (L' := [some (.ref a0), some (.int b1), some (.int b2)]) (st' := [.int b1]) (v1 := v) (by decide +kernel) rfl trivial ?_
    refine sim_eq0 (o := 7) (tg := 52) (f := 48) (by decide +kernel) rfl rfl (fun _ => ?_) (fun _ => ?_)
    · refine sim_seg [(.iconst 0, 0, 0, 0)] [] (q := 53) (L' := [some (.ref a0), some (.int b1), some (.int b2)]) (st' := [.int (J 0)]) (v1 := v) (by decide +kernel) rfl trivial ?_
      exact sim_iret (by decide +kernel) rfl rfl rfl
    · refine sim_seg [(.iconst 1, 0, 0, 1), (.goto 4, 0, 0, 0)] [] (q := 53) (L' := [some (.ref a0), some (.int b1), some (.int b2)]) (st' := [.int (J 1)]) (v1 := v) (by decide +kernel) rfl trivial ?_
      exact sim_iret (by decide +kernel) rfl rfl rfl
  refine sim_case (df := 103) (lw := 0) (hg := 6) (offs := #[43, 53, 58, 63, 68, 74, 82]) (len := 43) (z := 1) (o := 53) (tg := 54) (by decide +kernel) rfl rfl (by decide) (fun _ => ?_) (fun h3 => ?_)
  · refine sim_grd fun h2 => ?_
    refine sim_seg [(.aload_n 0, 0, 0, 0), (.getfield 93, 6, 11, 0)] [] (q := 58) (L' := [some (.ref a0), some (.int b1), some (.int b2)]) (st' := [.int (gi v a0 11)]) (v1 := v) (by decide +kernel) rfl ⟨h2, trivial⟩ ?_
    exact sim_iret (by decide +kernel) rfl rfl rfl
  refine sim_case (df := 103) (lw := 0) (hg := 6) (offs := #[43, 53, 58, 63, 68, 74, 82]) (len := 43) (z := 2) (o := 58) (tg := 59) (by decide +kernel) rfl rfl (by decide) (fun _ => ?_) (fun h5 => ?_)
  · refine sim_grd fun h4 => ?_
    refine sim_seg [(.aload_n 0, 0, 0, 0), (.getfield 102, 6, 12, 0)] [] (q := 63) (L' := [some (.ref a0), some (.int b1), some (.int b2)]) (st' := [.int (gi v a0 12)]) (v1 := v) (by decide +kernel) rfl ⟨h4, trivial⟩ ?_
    exact sim_iret (by decide +kernel) rfl rfl rfl
  refine sim_case (df := 103) (lw := 0) (hg := 6) (offs := #[43, 53, 58, 63, 68, 74, 82]) (len := 43) (z := 3) (o := 63) (tg := 64) (by decide +kernel) rfl rfl (by decide) (fun _ => ?_) (fun h7 => ?_)
  · refine sim_grd fun h6 => ?_
    refine sim_seg [(.aload_n 0, 0, 0, 0), (.getfield 96, 6, 13, 0)] [] (q := 68) (L' := [some (.ref a0), some (.int b1), some (.int b2)]) (st' := [.int (gi v a0 13)]) (v1 := v) (by decide +kernel) rfl ⟨h6, trivial⟩ ?_
    exact sim_iret (by decide +kernel) rfl rfl rfl
  refine sim_case (df := 103) (lw := 0) (hg := 6) (offs := #[43, 53, 58, 63, 68, 74, 82]) (len := 43) (z := 4) (o := 68) (tg := 69) (by decide +kernel) rfl rfl (by decide) (fun _ => ?_) (fun h10 => ?_)
  · refine sim_seg [(.aload_n 0, 0, 0, 0), (.iload_n 1, 0, 0, 0)] [] (q := 71) (L' := [some (.ref a0), some (.int b1), some (.int b2)]) (st' := [.int b1, .ref a0]) (v1 := v) (by decide +kernel) rfl trivial ?_
    refine sim_grd fun h8 => ?_
    refine sc_ri (pc3 := 74) (cf_V (idx := 141) (ci := 6) [.int b1] m_gm_madeValue (by decide) ⟨by decide, by decide⟩ (List.mem_of_getElem? (i := 2012) (by decide +kernel)) rfl (Nat.le_of_ble_eq_true rfl) h8 (by decide +kernel) (Nat.le_of_ble_eq_true rfl) rfl) (ok_gm_madeValue a0 b1 S v) rfl (fun x9 => ?_)
    exact sim_iret (by decide +kernel) rfl rfl rfl
  refine sim_case (df := 103) (lw := 0) (hg := 6) (offs := #[43, 53, 58, 63, 68, 74, 82]) (len := 43) (z := 5) (o := 74) (tg := 75) (by decide +kernel) rfl rfl (by decide) (fun _ => ?_) (fun h13 => ?_)
  · refine sim_grd fun h11 => ?_
    refine sim_seg [(.aload_n 0, 0, 0, 0), (.getfield 96, 6, 13, 0)] [] (q := 79) (L' := [some (.ref a0), some (.int b1), some (.int b2)]) (st' := [.int (gi v a0 13)]) (v1 := v) (by decide +kernel) rfl ⟨h11, trivial⟩ ?_
    refine sc_ri (pc3 := 82) (cf_S (idx := 145) [.int (gi v a0 13)] m_gm_digitsOf ⟨by decide, by decide⟩ (List.mem_of_getElem? (i := 2029) (by decide +kernel)) rfl (Nat.le_of_ble_eq_true rfl) (by decide +kernel) (Nat.le_of_ble_eq_true rfl) rfl) (ok_gm_digitsOf N (gi v a0 13) S v) rfl (fun x12 => ?_)
    exact sim_iret (by decide +kernel) rfl rfl rfl
  refine sim_case (df := 103) (lw := 0) (hg := 6) (offs := #[43, 53, 58, 63, 68, 74, 82]) (len := 43) (z := 6) (o := 82) (tg := 83) (by decide +kernel) rfl rfl (by decide) (fun _ => ?_) (fun h22 => ?_)
  · refine sim_seg [(.iload_n 1, 0, 0, 0)] [] (q := 84) (L' := [some (.ref a0), some (.int b1), some (.int b2)]) (st' := [.int b1]) (v1 := v) (by decide +kernel) rfl trivial ?_
    refine sim_eq0 (o := 13) (tg := 97) (f := 87) (by decide +kernel) rfl rfl (fun _ => ?_) (fun _ => ?_)
    · refine sim_grd fun h14 => ?_
      refine sim_bind fun r15 h16 => ?_
      refine sim_grd fun h17 => ?_
      refine sim_seg [(.aload_n 0, 0, 0, 0), (.getfield 7, 6, 0, 0), (.iconst 5, 0, 0, 5), (.iaload, 0, 0, 0)] [r15] (q := 103) (L' := [some (.ref a0), some (.int b1), some (.int b2)]) (st' := [.int (gi v r15 5)]) (v1 := v) (by decide +kernel) rfl ⟨⟨h14, h16⟩, ⟨(Or.inl (kin_alen h17)), (vin_J h17 (by unfold vp_in; decide))⟩, trivial⟩ ?_
      exact sim_iret (by decide +kernel) rfl rfl rfl
    · refine sim_grd fun h18 => ?_
      refine sim_bind fun r19 h20 => ?_
      refine sim_grd fun h21 => ?_
      refine sim_seg [(.aload_n 0, 0, 0, 0), (.getfield 7, 6, 0, 0), (.bipush 6, 0, 0, 6), (.iaload, 0, 0, 0), (.goto 9, 0, 0, 0)] [r19] (q := 103) (L' := [some (.ref a0), some (.int b1), some (.int b2)]) (st' := [.int (gi v r19 6)]) (v1 := v) (by decide +kernel) rfl ⟨⟨h18, h20⟩, ⟨(Or.inl (kin_alen h21)), (vin_J h21 (by unfold vp_in; decide))⟩, trivial⟩ ?_
      exact sim_iret (by decide +kernel) rfl rfl rfl
  refine sim_tdef (df := 103) (lw := 0) (hg := 6) (offs := #[43, 53, 58, 63, 68, 74, 82]) (len := 43) (tg := 104) (by decide +kernel) rfl (by have eh1 := ne_J h1 (by decide) (by decide); have eh3 := ne_J h3 (by decide) (by decide); have eh5 := ne_J h5 (by decide) (by decide); have eh7 := ne_J h7 (by decide) (by decide); have eh10 := ne_J h10 (by decide) (by decide); have eh13 := ne_J h13 (by decide) (by decide); have eh22 := ne_J h22 (by decide) (by decide); omega) ?_
  refine sim_grd fun h23 => ?_
  refine sim_bind fun r24 h25 => ?_
  refine sim_grd fun h26 => ?_
  refine sim_seg [(.aload_n 0, 0, 0, 0), (.getfield 7, 6, 0, 0), (.bipush 7, 0, 0, 7), (.iaload, 0, 0, 0)] [r24] (q := 111) (L' := [some (.ref a0), some (.int b1), some (.int b2)]) (st' := [.int (gi v r24 7)]) (v1 := v) (by decide +kernel) rfl ⟨⟨h23, h25⟩, ⟨(Or.inl (kin_alen h26)), (vin_J h26 (by unfold vp_in; decide))⟩, trivial⟩ ?_
  exact sim_iret (by decide +kernel) rfl rfl rfl
def B_gm_foretold : bd := (⟨"GateCounterModel", "foretold", "(ZI)I"⟩, prog_8_method_85_code, 4, (some .int), [], 6, 7)
theorem m_gm_foretold : mV B_gm_foretold 6 2 := ⟨⟨⟨by decide +kernel, Or.inl rfl⟩, rfl, (List.mem_of_getElem? (i := 1983) (by decide +kernel)), by decide +kernel, (List.mem_of_getElem? (i := 104) (by decide +kernel)), ⟨by decide, by decide⟩, by decide⟩, rfl, (by unfold nar; decide +kernel), (List.mem_of_getElem? (i := 1982) (by decide +kernel)), rfl, (List.mem_of_getElem? (i := 70) (by decide +kernel))⟩
noncomputable def F_gm_foretold (N : Nat) (a0 : Nat) (b1 : Int32) (b2 : Int32) (S : shp) (v : vl) : Option (Int32 × vl) :=
  grd (kin S a0 = some (0, 6)) <| (F_gm_thinks N a0 S v).bind fun w2 => (F_gm_measures N a0 b1 S w2).bind fun (x3, w4) => (if x3 = (J 0) then (F_gm_told N a0 b1 b2 S w4).bind fun x5 => (F_gm_back N a0 x5 S w4).bind fun (x6, w7) => some ((x6, w7)) else (F_gm_back N a0 (J (-1)) S w4).bind fun (x8, w9) => some ((x8, w9)))
theorem ok_gm_foretold (N : Nat) (a0 : Nat) (b1 : Int32) (b2 : Int32) (S : shp) (v : vl) : SimK B_gm_foretold 0 (entB (bN B_gm_foretold) [.ref a0, .int b1, .int b2]) [] S v (F_gm_foretold N a0 b1 b2 S v) (ρpi S) := by
  show SimK B_gm_foretold 0 [some (.ref a0), some (.int b1), some (.int b2), none] [] S v (F_gm_foretold N a0 b1 b2 S v) _
  unfold F_gm_foretold
  refine sim_seg [(.aload_n 0, 0, 0, 0)] [] (q := 1) (L' := [some (.ref a0), some (.int b1), some (.int b2), none]) (st' := [.ref a0]) (v1 := v) (by decide +kernel) rfl trivial ?_
  refine sim_grd fun h1 => ?_
  refine sc_pv (pc3 := 4) (cf_V (idx := 295) (ci := 6) [] m_gm_thinks (by decide) ⟨by decide, by decide⟩ (List.mem_of_getElem? (i := 1884) (by decide +kernel)) rfl (Nat.le_of_ble_eq_true rfl) h1 (by decide +kernel) (Nat.le_of_ble_eq_true rfl) rfl) (ok_gm_thinks N a0 S v) rfl (fun w2 => ?_)
  refine sim_seg [(.aload_n 0, 0, 0, 0), (.iload_n 1, 0, 0, 0)] [] (q := 6) (L' := [some (.ref a0), some (.int b1), some (.int b2), none]) (st' := [.int b1, .ref a0]) (v1 := w2) (by decide +kernel) rfl trivial ?_
  refine sc_pi (pc3 := 9) (cf_V (idx := 320) (ci := 6) [.int b1] m_gm_measures (by decide) ⟨by decide, by decide⟩ (List.mem_of_getElem? (i := 1984) (by decide +kernel)) rfl (Nat.le_of_ble_eq_true rfl) h1 (by decide +kernel) (Nat.le_of_ble_eq_true rfl) rfl) (ok_gm_measures N a0 b1 S w2) rfl (fun x3 w4 => ?_)
  refine sim_seg [(.istore_n 3, 0, 0, 0)] [] (q := 10) (L' := [some (.ref a0), some (.int b1), some (.int b2), some (.int x3)]) (st' := []) (v1 := w4) (by decide +kernel) rfl trivial ?_
  refine sim_seg [(.aload_n 0, 0, 0, 0), (.iload_n 3, 0, 0, 0)] [] (q := 12) (L' := [some (.ref a0), some (.int b1), some (.int b2), some (.int x3)]) (st' := [.int x3, .ref a0]) (v1 := w4) (by decide +kernel) rfl trivial ?_
  refine sim_eq0 (o := 7) (tg := 19) (f := 15) (by decide +kernel) rfl rfl (fun _ => ?_) (fun _ => ?_)
  · refine sim_seg [(.aload_n 0, 0, 0, 0), (.iload_n 1, 0, 0, 0), (.iload_n 2, 0, 0, 0)] [] (q := 22) (L' := [some (.ref a0), some (.int b1), some (.int b2), some (.int x3)]) (st' := [.int b2, .int b1, .ref a0, .ref a0]) (v1 := w4) (by decide +kernel) rfl trivial ?_
    refine sc_ri (pc3 := 25) (cf_V (idx := 151) (ci := 6) [.int b1, .int b2] m_gm_told (by decide) ⟨by decide, by decide⟩ (List.mem_of_getElem? (i := 2008) (by decide +kernel)) rfl (Nat.le_of_ble_eq_true rfl) h1 (by decide +kernel) (Nat.le_of_ble_eq_true rfl) rfl) (ok_gm_told N a0 b1 b2 S w4) rfl (fun x5 => ?_)
    refine sc_pi (pc3 := 28) (cf_V (idx := 301) (ci := 6) [.int x5] m_gm_back (by decide) ⟨by decide, by decide⟩ (List.mem_of_getElem? (i := 1919) (by decide +kernel)) rfl (Nat.le_of_ble_eq_true rfl) h1 (by decide +kernel) (Nat.le_of_ble_eq_true rfl) rfl) (ok_gm_back N a0 x5 S w4) rfl (fun x6 w7 => ?_)
    exact sim_iret (by decide +kernel) rfl rfl rfl
  · refine sim_seg [(.iconst (-1), 0, 0, (-1)), (.goto 9, 0, 0, 0)] [] (q := 25) (L' := [some (.ref a0), some (.int b1), some (.int b2), some (.int x3)]) (st' := [.int (J (-1)), .ref a0]) (v1 := w4) (by decide +kernel) rfl trivial ?_
    refine sc_pi (pc3 := 28) (cf_V (idx := 301) (ci := 6) [.int (J (-1))] m_gm_back (by decide) ⟨by decide, by decide⟩ (List.mem_of_getElem? (i := 1919) (by decide +kernel)) rfl (Nat.le_of_ble_eq_true rfl) h1 (by decide +kernel) (Nat.le_of_ble_eq_true rfl) rfl) (ok_gm_back N a0 (J (-1)) S w4) rfl (fun x8 w9 => ?_)
    exact sim_iret (by decide +kernel) rfl rfl rfl
def B_gm_byGate : bd := (⟨"GateCounterModel", "byGate", "(I)I"⟩, prog_8_method_86_code, 2, (some .int), [], 6, 8)
theorem m_gm_byGate : mV B_gm_byGate 6 1 := ⟨⟨⟨by decide +kernel, Or.inl rfl⟩, rfl, (List.mem_of_getElem? (i := 1979) (by decide +kernel)), by decide +kernel, (List.mem_of_getElem? (i := 104) (by decide +kernel)), ⟨by decide, by decide⟩, by decide⟩, rfl, (by unfold nar; decide +kernel), (List.mem_of_getElem? (i := 1977) (by decide +kernel)), rfl, (List.mem_of_getElem? (i := 1978) (by decide +kernel))⟩
noncomputable def K_gm_byGate_21 (N : Nat)  (S : shp) (v : vl) (p0 : Nat) (p1 : Int32) (s0 : Nat) (s1 : Int32) : Option (Int32 × vl) :=
  grd (kin S s0 = some (0, 6)) <| (F_gm_fails s0 s1 (J 1) S v).bind fun (x5, w6) => (if x5 = (J 0) then grd (kin S p0 = some (0, 6)) <| (F_gm_foretold N p0 (J 0) p1 S w6).bind fun (x8, w9) => some ((x8, w9)) else some (((J 0), w6)))
theorem sK_gm_byGate_21 (N : Nat)   (S : shp) (v : vl) (p0 : Nat) (p1 : Int32) (s0 : Nat) (s1 : Int32) : SimK B_gm_byGate 21 [some (.ref p0), some (.int p1)] [.int s1, .ref s0] S v (K_gm_byGate_21 N  S v p0 p1 s0 s1) (ρpi S) := by
  unfold K_gm_byGate_21
  refine sim_seg [(.iconst 1, 0, 0, 1)] [] (q := 22) (L' := [some (.ref p0), some (.int p1)]) (st' := [.int (J 1), .int s1, .ref s0]) (v1 := v) (by decide +kernel) rfl trivial ?_
  refine sim_grd fun h4 => ?_
  refine sc_pi (pc3 := 25) (cf_V (idx := 279) (ci := 6) [.int s1, .int (J 1)] m_gm_fails (by decide) ⟨by decide, by decide⟩ (List.mem_of_getElem? (i := 1827) (by decide +kernel)) rfl (Nat.le_of_ble_eq_true rfl) h4 (by decide +kernel) (Nat.le_of_ble_eq_true rfl) rfl) (ok_gm_fails s0 s1 (J 1) S v) rfl (fun x5 w6 => ?_)
  refine sim_eq0 (o := 7) (tg := 32) (f := 28) (by decide +kernel) rfl rfl (fun _ => ?_) (fun _ => ?_)
  · refine sim_seg [(.aload_n 0, 0, 0, 0), (.iconst 0, 0, 0, 0), (.iload_n 1, 0, 0, 0)] [] (q := 35) (L' := [some (.ref p0), some (.int p1)]) (st' := [.int p1, .int (J 0), .ref p0]) (v1 := w6) (by decide +kernel) rfl trivial ?_
    refine sim_grd fun h7 => ?_
    refine sc_pi (pc3 := 38) (cf_V (idx := 323) (ci := 6) [.int (J 0), .int p1] m_gm_foretold (by decide) ⟨by decide, by decide⟩ (List.mem_of_getElem? (i := 1980) (by decide +kernel)) rfl (Nat.le_of_ble_eq_true rfl) h7 (by decide +kernel) (Nat.le_of_ble_eq_true rfl) rfl) (ok_gm_foretold N p0 (J 0) p1 S w6) rfl (fun x8 w9 => ?_)
    exact sim_iret (by decide +kernel) rfl rfl rfl
  · refine sim_seg [(.iconst 0, 0, 0, 0), (.goto 9, 0, 0, 0)] [] (q := 38) (L' := [some (.ref p0), some (.int p1)]) (st' := [.int (J 0)]) (v1 := w6) (by decide +kernel) rfl trivial ?_
    exact sim_iret (by decide +kernel) rfl rfl rfl
noncomputable def F_gm_byGate (N : Nat) (a0 : Nat) (b1 : Int32) (S : shp) (v : vl) : Option (Int32 × vl) :=
  grd (kin S a0 = some (0, 6)) <| lt (si v a0 10 (J 0)) fun w2 => (F_gm_inRange b1 (J 0) (J 7) S w2).bind fun x3 => (if x3 = (J 0) then K_gm_byGate_21 N  S w2 a0 b1 a0 (J 1) else K_gm_byGate_21 N  S w2 a0 b1 a0 (J 0))
theorem ok_gm_byGate (N : Nat) (a0 : Nat) (b1 : Int32) (S : shp) (v : vl) : SimK B_gm_byGate 0 (entB (bN B_gm_byGate) [.ref a0, .int b1]) [] S v (F_gm_byGate N a0 b1 S v) (ρpi S) := by
  show SimK B_gm_byGate 0 [some (.ref a0), some (.int b1)] [] S v (F_gm_byGate N a0 b1 S v) _
  unfold F_gm_byGate
  refine sim_grd fun h1 => ?_
  refine sim_seg [(.aload_n 0, 0, 0, 0), (.iconst 0, 0, 0, 0), (.putfield 38, 6, 10, 0), (.aload_n 0, 0, 0, 0), (.iload_n 1, 0, 0, 0), (.iconst 0, 0, 0, 0), (.bipush 7, 0, 0, 7)] [] (q := 10) (L' := [some (.ref a0), some (.int b1)]) (st' := [.int (J 7), .int (J 0), .int b1, .ref a0]) (v1 := (si v a0 10 (J 0))) (by decide +kernel) rfl ⟨h1, trivial⟩ ?_
  refine sim_lt (x := (si v a0 10 (J 0))) ?_
  generalize (si v a0 10 (J 0)) = w2
  refine sc_ri (pc3 := 13) (cf_S (idx := 41) [.int b1, .int (J 0), .int (J 7)] m_gm_inRange ⟨by decide, by decide⟩ (List.mem_of_getElem? (i := 1712) (by decide +kernel)) rfl (Nat.le_of_ble_eq_true rfl) (by decide +kernel) (Nat.le_of_ble_eq_true rfl) rfl) (ok_gm_inRange b1 (J 0) (J 7) S w2) rfl (fun x3 => ?_)
  refine sim_ne0 (o := 7) (tg := 20) (f := 16) (by decide +kernel) rfl rfl (fun _ => ?_) (fun _ => ?_)
  · refine sim_seg [(.iconst 1, 0, 0, 1), (.goto 4, 0, 0, 0)] [] (q := 21) (L' := [some (.ref a0), some (.int b1)]) (st' := [.int (J 1), .ref a0]) (v1 := w2) (by decide +kernel) rfl trivial ?_
    exact sK_gm_byGate_21 N S w2 a0 b1 a0 (J 1)
  · refine sim_seg [(.iconst 0, 0, 0, 0)] [] (q := 21) (L' := [some (.ref a0), some (.int b1)]) (st' := [.int (J 0), .ref a0]) (v1 := w2) (by decide +kernel) rfl trivial ?_
    exact sK_gm_byGate_21 N S w2 a0 b1 a0 (J 0)
def B_gm_byPeriod : bd := (⟨"GateCounterModel", "byPeriod", "(I)I"⟩, prog_8_method_87_code, 2, (some .int), [], 6, 8)
theorem m_gm_byPeriod : mV B_gm_byPeriod 6 1 := ⟨⟨⟨by decide +kernel, Or.inl rfl⟩, rfl, (List.mem_of_getElem? (i := 2035) (by decide +kernel)), by decide +kernel, (List.mem_of_getElem? (i := 104) (by decide +kernel)), ⟨by decide, by decide⟩, by decide⟩, rfl, (by unfold nar; decide +kernel), (List.mem_of_getElem? (i := 2033) (by decide +kernel)), rfl, (List.mem_of_getElem? (i := 2034) (by decide +kernel))⟩
noncomputable def K_gm_byPeriod_21 (N : Nat)  (S : shp) (v : vl) (p0 : Nat) (p1 : Int32) (s0 : Nat) (s1 : Int32) : Option (Int32 × vl) :=
  grd (kin S s0 = some (0, 6)) <| (F_gm_fails s0 s1 (J 1) S v).bind fun (x5, w6) => (if x5 = (J 0) then grd (kin S p0 = some (0, 6)) <| (F_gm_foretold N p0 (J 1) p1 S w6).bind fun (x8, w9) => some ((x8, w9)) else some (((J 0), w6)))
theorem sK_gm_byPeriod_21 (N : Nat)   (S : shp) (v : vl) (p0 : Nat) (p1 : Int32) (s0 : Nat) (s1 : Int32) : SimK B_gm_byPeriod 21 [some (.ref p0), some (.int p1)] [.int s1, .ref s0] S v (K_gm_byPeriod_21 N  S v p0 p1 s0 s1) (ρpi S) := by
  unfold K_gm_byPeriod_21
  refine sim_seg [(.iconst 1, 0, 0, 1)] [] (q := 22) (L' := [some (.ref p0), some (.int p1)]) (st' := [.int (J 1), .int s1, .ref s0]) (v1 := v) (by decide +kernel) rfl trivial ?_
  refine sim_grd fun h4 => ?_
  refine sc_pi (pc3 := 25) (cf_V (idx := 279) (ci := 6) [.int s1, .int (J 1)] m_gm_fails (by decide) ⟨by decide, by decide⟩ (List.mem_of_getElem? (i := 1827) (by decide +kernel)) rfl (Nat.le_of_ble_eq_true rfl) h4 (by decide +kernel) (Nat.le_of_ble_eq_true rfl) rfl) (ok_gm_fails s0 s1 (J 1) S v) rfl (fun x5 w6 => ?_)
  refine sim_eq0 (o := 7) (tg := 32) (f := 28) (by decide +kernel) rfl rfl (fun _ => ?_) (fun _ => ?_)
  · refine sim_seg [(.aload_n 0, 0, 0, 0), (.iconst 1, 0, 0, 1), (.iload_n 1, 0, 0, 0)] [] (q := 35) (L' := [some (.ref p0), some (.int p1)]) (st' := [.int p1, .int (J 1), .ref p0]) (v1 := w6) (by decide +kernel) rfl trivial ?_
    refine sim_grd fun h7 => ?_
    refine sc_pi (pc3 := 38) (cf_V (idx := 323) (ci := 6) [.int (J 1), .int p1] m_gm_foretold (by decide) ⟨by decide, by decide⟩ (List.mem_of_getElem? (i := 1980) (by decide +kernel)) rfl (Nat.le_of_ble_eq_true rfl) h7 (by decide +kernel) (Nat.le_of_ble_eq_true rfl) rfl) (ok_gm_foretold N p0 (J 1) p1 S w6) rfl (fun x8 w9 => ?_)
    exact sim_iret (by decide +kernel) rfl rfl rfl
  · refine sim_seg [(.iconst 0, 0, 0, 0), (.goto 9, 0, 0, 0)] [] (q := 38) (L' := [some (.ref p0), some (.int p1)]) (st' := [.int (J 0)]) (v1 := w6) (by decide +kernel) rfl trivial ?_
    exact sim_iret (by decide +kernel) rfl rfl rfl
noncomputable def F_gm_byPeriod (N : Nat) (a0 : Nat) (b1 : Int32) (S : shp) (v : vl) : Option (Int32 × vl) :=
  grd (kin S a0 = some (0, 6)) <| lt (si v a0 10 (J 0)) fun w2 => (F_gm_inRange b1 (J 0) (J 7) S w2).bind fun x3 => (if x3 = (J 0) then K_gm_byPeriod_21 N  S w2 a0 b1 a0 (J 1) else K_gm_byPeriod_21 N  S w2 a0 b1 a0 (J 0))
theorem ok_gm_byPeriod (N : Nat) (a0 : Nat) (b1 : Int32) (S : shp) (v : vl) : SimK B_gm_byPeriod 0 (entB (bN B_gm_byPeriod) [.ref a0, .int b1]) [] S v (F_gm_byPeriod N a0 b1 S v) (ρpi S) := by
  show SimK B_gm_byPeriod 0 [some (.ref a0), some (.int b1)] [] S v (F_gm_byPeriod N a0 b1 S v) _
  unfold F_gm_byPeriod
  refine sim_grd fun h1 => ?_
  refine sim_seg [(.aload_n 0, 0, 0, 0), (.iconst 0, 0, 0, 0), (.putfield 38, 6, 10, 0), (.aload_n 0, 0, 0, 0), (.iload_n 1, 0, 0, 0), (.iconst 0, 0, 0, 0), (.bipush 7, 0, 0, 7)] [] (q := 10) (L' := [some (.ref a0), some (.int b1)]) (st' := [.int (J 7), .int (J 0), .int b1, .ref a0]) (v1 := (si v a0 10 (J 0))) (by decide +kernel) rfl ⟨h1, trivial⟩ ?_
  refine sim_lt (x := (si v a0 10 (J 0))) ?_
  generalize (si v a0 10 (J 0)) = w2
  refine sc_ri (pc3 := 13) (cf_S (idx := 41) [.int b1, .int (J 0), .int (J 7)] m_gm_inRange ⟨by decide, by decide⟩ (List.mem_of_getElem? (i := 1712) (by decide +kernel)) rfl (Nat.le_of_ble_eq_true rfl) (by decide +kernel) (Nat.le_of_ble_eq_true rfl) rfl) (ok_gm_inRange b1 (J 0) (J 7) S w2) rfl (fun x3 => ?_)
  refine sim_ne0 (o := 7) (tg := 20) (f := 16) (by decide +kernel) rfl rfl (fun _ => ?_) (fun _ => ?_)
  · refine sim_seg [(.iconst 1, 0, 0, 1), (.goto 4, 0, 0, 0)] [] (q := 21) (L' := [some (.ref a0), some (.int b1)]) (st' := [.int (J 1), .ref a0]) (v1 := w2) (by decide +kernel) rfl trivial ?_
    exact sK_gm_byPeriod_21 N S w2 a0 b1 a0 (J 1)
  · refine sim_seg [(.iconst 0, 0, 0, 0)] [] (q := 21) (L' := [some (.ref a0), some (.int b1)]) (st' := [.int (J 0), .ref a0]) (v1 := w2) (by decide +kernel) rfl trivial ?_
    exact sK_gm_byPeriod_21 N S w2 a0 b1 a0 (J 0)
def B_gm_trueRate : bd := (⟨"GateCounterModel", "trueRate", "(I)I"⟩, prog_8_method_88_code, 4, (some .int), [], 6, 6)
theorem m_gm_trueRate : mV B_gm_trueRate 6 1 := ⟨⟨⟨by decide +kernel, Or.inl rfl⟩, rfl, (List.mem_of_getElem? (i := 2039) (by decide +kernel)), by decide +kernel, (List.mem_of_getElem? (i := 104) (by decide +kernel)), ⟨by decide, by decide⟩, by decide⟩, rfl, (by unfold nar; decide +kernel), (List.mem_of_getElem? (i := 2037) (by decide +kernel)), rfl, (List.mem_of_getElem? (i := 2038) (by decide +kernel))⟩
noncomputable def K_gm_trueRate_22 (N : Nat)  (S : shp) (v : vl) (p0 : Nat) (p1 : Int32) (s0 : Nat) (s1 : Int32) : Option (Int32 × vl) :=
  grd (kin S s0 = some (0, 6)) <| (F_gm_fails s0 s1 (J 1) S v).bind fun (x5, w6) => (if x5 = (J 0) then grd (kin S p0 = some (0, 6)) <| (F_gm_moreIn N p0 (J 14) p1 S w6).bind fun (x8, w9) => grd (¬ (Int32.toInt64 p1) = 0) <| lt (Int64.toInt32 (((Int32.toInt64 x8) * (JL 1000000)) / (Int32.toInt64 p1))) fun x11 => some ((x11, w9)) else some (((J 0), w6)))
theorem sK_gm_trueRate_22 (N : Nat)   (S : shp) (v : vl) (p0 : Nat) (p1 : Int32) (s0 : Nat) (s1 : Int32) : SimK B_gm_trueRate 22 [some (.ref p0), some (.int p1), none, none] [.int s1, .ref s0] S v (K_gm_trueRate_22 N  S v p0 p1 s0 s1) (ρpi S) := by
  unfold K_gm_trueRate_22
  refine sim_seg [(.iconst 1, 0, 0, 1)] [] (q := 23) (L' := [some (.ref p0), some (.int p1), none, none]) (st' := [.int (J 1), .int s1, .ref s0]) (v1 := v) (by decide +kernel) rfl trivial ?_
  refine sim_grd fun h4 => ?_
  refine sc_pi (pc3 := 26) (cf_V (idx := 279) (ci := 6) [.int s1, .int (J 1)] m_gm_fails (by decide) ⟨by decide, by decide⟩ (List.mem_of_getElem? (i := 1827) (by decide +kernel)) rfl (Nat.le_of_ble_eq_true rfl) h4 (by decide +kernel) (Nat.le_of_ble_eq_true rfl) rfl) (ok_gm_fails s0 s1 (J 1) S v) rfl (fun x5 w6 => ?_)
  refine sim_eq0 (o := 5) (tg := 31) (f := 29) (by decide +kernel) rfl rfl (fun _ => ?_) (fun _ => ?_)
  · refine sim_seg [(.aload_n 0, 0, 0, 0), (.bipush 14, 0, 0, 14), (.iload_n 1, 0, 0, 0)] [] (q := 35) (L' := [some (.ref p0), some (.int p1), none, none]) (st' := [.int p1, .int (J 14), .ref p0]) (v1 := w6) (by decide +kernel) rfl trivial ?_
    refine sim_grd fun h7 => ?_
    refine sc_pi (pc3 := 38) (cf_V (idx := 308) (ci := 6) [.int (J 14), .int p1] m_gm_moreIn (by decide) ⟨by decide, by decide⟩ (List.mem_of_getElem? (i := 1880) (by decide +kernel)) rfl (Nat.le_of_ble_eq_true rfl) h7 (by decide +kernel) (Nat.le_of_ble_eq_true rfl) rfl) (ok_gm_moreIn N p0 (J 14) p1 S w6) rfl (fun x8 w9 => ?_)
    refine sim_seg [(.i2l, 0, 0, 0), (.lstore_n 2, 0, 0, 0)] [] (q := 40) (L' := [some (.ref p0), some (.int p1), some (.long (Int32.toInt64 x8)), none]) (st' := []) (v1 := w9) (by decide +kernel) rfl trivial ?_
    refine sim_grd fun h10 => ?_
    refine sim_seg [(.lload_n 2, 0, 0, 0), (.ldc2_w 326, 0, 0, 1000000), (.lmul, 0, 0, 0), (.iload_n 1, 0, 0, 0), (.i2l, 0, 0, 0), (.ldiv, 0, 0, 0), (.l2i, 0, 0, 0)] [] (q := 49) (L' := [some (.ref p0), some (.int p1), some (.long (Int32.toInt64 x8)), none]) (st' := [.int (Int64.toInt32 (((Int32.toInt64 x8) * (JL 1000000)) / (Int32.toInt64 p1)))]) (v1 := w9) (by decide +kernel) rfl ⟨h10, trivial⟩ ?_
    refine sim_nm (Int64.toInt32 (((Int32.toInt64 x8) * (JL 1000000)) / (Int32.toInt64 p1))) (fun x11 => [some (.ref p0), some (.int p1), some (.long (Int32.toInt64 x8)), none]) (fun x11 => [.int x11]) (fun x11 => ?_) rfl rfl
    exact sim_iret (by decide +kernel) rfl rfl rfl
  · refine sim_seg [(.iconst 0, 0, 0, 0)] [] (q := 30) (L' := [some (.ref p0), some (.int p1), none, none]) (st' := [.int (J 0)]) (v1 := w6) (by decide +kernel) rfl trivial ?_
    exact sim_iret (by decide +kernel) rfl rfl rfl
noncomputable def F_gm_trueRate (N : Nat) (a0 : Nat) (b1 : Int32) (S : shp) (v : vl) : Option (Int32 × vl) :=
  grd (kin S a0 = some (0, 6)) <| lt (si v a0 10 (J 0)) fun w2 => (F_gm_inRange b1 (J 1) (J 100000) S w2).bind fun x3 => (if x3 = (J 0) then K_gm_trueRate_22 N  S w2 a0 b1 a0 (J 1) else K_gm_trueRate_22 N  S w2 a0 b1 a0 (J 0))
theorem ok_gm_trueRate (N : Nat) (a0 : Nat) (b1 : Int32) (S : shp) (v : vl) : SimK B_gm_trueRate 0 (entB (bN B_gm_trueRate) [.ref a0, .int b1]) [] S v (F_gm_trueRate N a0 b1 S v) (ρpi S) := by
  show SimK B_gm_trueRate 0 [some (.ref a0), some (.int b1), none, none] [] S v (F_gm_trueRate N a0 b1 S v) _
  unfold F_gm_trueRate
  refine sim_grd fun h1 => ?_
  refine sim_seg [(.aload_n 0, 0, 0, 0), (.iconst 0, 0, 0, 0), (.putfield 38, 6, 10, 0), (.aload_n 0, 0, 0, 0), (.iload_n 1, 0, 0, 0), (.iconst 1, 0, 0, 1), (.ldc_w 304, 0, 0, 100000)] [] (q := 11) (L' := [some (.ref a0), some (.int b1), none, none]) (st' := [.int (J 100000), .int (J 1), .int b1, .ref a0]) (v1 := (si v a0 10 (J 0))) (by decide +kernel) rfl ⟨h1, trivial⟩ ?_
  refine sim_lt (x := (si v a0 10 (J 0))) ?_
  generalize (si v a0 10 (J 0)) = w2
  refine sc_ri (pc3 := 14) (cf_S (idx := 41) [.int b1, .int (J 1), .int (J 100000)] m_gm_inRange ⟨by decide, by decide⟩ (List.mem_of_getElem? (i := 1712) (by decide +kernel)) rfl (Nat.le_of_ble_eq_true rfl) (by decide +kernel) (Nat.le_of_ble_eq_true rfl) rfl) (ok_gm_inRange b1 (J 1) (J 100000) S w2) rfl (fun x3 => ?_)
  refine sim_ne0 (o := 7) (tg := 21) (f := 17) (by decide +kernel) rfl rfl (fun _ => ?_) (fun _ => ?_)
  · refine sim_seg [(.iconst 1, 0, 0, 1), (.goto 4, 0, 0, 0)] [] (q := 22) (L' := [some (.ref a0), some (.int b1), none, none]) (st' := [.int (J 1), .ref a0]) (v1 := w2) (by decide +kernel) rfl trivial ?_
    exact sK_gm_trueRate_22 N S w2 a0 b1 a0 (J 1)
  · refine sim_seg [(.iconst 0, 0, 0, 0)] [] (q := 22) (L' := [some (.ref a0), some (.int b1), none, none]) (st' := [.int (J 0), .ref a0]) (v1 := w2) (by decide +kernel) rfl trivial ?_
    exact sK_gm_trueRate_22 N S w2 a0 b1 a0 (J 0)
def B_gm_idealValue : bd := (⟨"GateCounterModel", "idealValue", "(Z)I"⟩, prog_8_method_89_code, 3, (some .int), [], 6, 7)
theorem m_gm_idealValue : mV B_gm_idealValue 6 1 := ⟨⟨⟨by decide +kernel, Or.inl rfl⟩, rfl, (List.mem_of_getElem? (i := 2044) (by decide +kernel)), by decide +kernel, (List.mem_of_getElem? (i := 104) (by decide +kernel)), ⟨by decide, by decide⟩, by decide⟩, rfl, (by unfold nar; decide +kernel), (List.mem_of_getElem? (i := 2042) (by decide +kernel)), rfl, (List.mem_of_getElem? (i := 2043) (by decide +kernel))⟩
noncomputable def F_gm_idealValue (N : Nat) (a0 : Nat) (b1 : Int32) (S : shp) (v : vl) : Option (Int32 × vl) :=
  grd (kin S a0 = some (0, 6)) <| lt (si v a0 10 (J 0)) fun w2 => (F_gm_thinks N a0 S w2).bind fun w3 => (gr S a0 0).bind fun r4 => grd (kin S r4 = some (1, 199)) <| lt (si w3 r4 2 (J 0)) fun w7 => lt (si w7 r4 3 (J 0)) fun w8 => lt (si w8 r4 8 (J 0)) fun w9 => lt (si w9 r4 7 (J 0)) fun w10 => (F_gm_measures N a0 b1 S w10).bind fun (x11, w12) => (if x11 = (J 0) then (F_gm_madeValue a0 b1 S w12).bind fun x13 => (F_gm_back N a0 x13 S w12).bind fun (x14, w15) => some ((x14, w15)) else (F_gm_back N a0 (J (-1)) S w12).bind fun (x16, w17) => some ((x16, w17)))
theorem ok_gm_idealValue (N : Nat) (a0 : Nat) (b1 : Int32) (S : shp) (v : vl) : SimK B_gm_idealValue 0 (entB (bN B_gm_idealValue) [.ref a0, .int b1]) [] S v (F_gm_idealValue N a0 b1 S v) (ρpi S) := by
  show SimK B_gm_idealValue 0 [some (.ref a0), some (.int b1), none] [] S v (F_gm_idealValue N a0 b1 S v) _
  unfold F_gm_idealValue
  refine sim_grd fun h1 => ?_
  refine sim_seg [(.aload_n 0, 0, 0, 0), (.iconst 0, 0, 0, 0), (.putfield 38, 6, 10, 0), (.aload_n 0, 0, 0, 0)] [] (q := 6) (L' := [some (.ref a0), some (.int b1), none]) (st' := [.ref a0]) (v1 := (si v a0 10 (J 0))) (by decide +kernel) rfl ⟨h1, trivial⟩ ?_
  refine sim_lt (x := (si v a0 10 (J 0))) ?_
  generalize (si v a0 10 (J 0)) = w2
  refine sc_pv (pc3 := 9) (cf_V (idx := 295) (ci := 6) [] m_gm_thinks (by decide) ⟨by decide, by decide⟩ (List.mem_of_getElem? (i := 1884) (by decide +kernel)) rfl (Nat.le_of_ble_eq_true rfl) h1 (by decide +kernel) (Nat.le_of_ble_eq_true rfl) rfl) (ok_gm_thinks N a0 S w2) rfl (fun w3 => ?_)
  refine sim_bind fun r4 h5 => ?_
  refine sim_grd fun h6 => ?_
  refine sim_seg [(.aload_n 0, 0, 0, 0), (.getfield 7, 6, 0, 0), (.iconst 2, 0, 0, 2), (.iconst 0, 0, 0, 0), (.iastore, 0, 0, 0), (.aload_n 0, 0, 0, 0)] [r4] (q := 17) (L' := [some (.ref a0), some (.int b1), none]) (st' := [.ref a0]) (v1 := (si w3 r4 2 (J 0))) (by decide +kernel) rfl ⟨⟨h1, h5⟩, ⟨(kin_alen h6), (vin_J h6 (by unfold vp_in; decide))⟩, trivial⟩ ?_
  refine sim_lt (x := (si w3 r4 2 (J 0))) ?_
  generalize (si w3 r4 2 (J 0)) = w7
  refine sim_seg [(.getfield 7, 6, 0, 0), (.iconst 3, 0, 0, 3), (.iconst 0, 0, 0, 0), (.iastore, 0, 0, 0), (.aload_n 0, 0, 0, 0)] [r4] (q := 24) (L' := [some (.ref a0), some (.int b1), none]) (st' := [.ref a0]) (v1 := (si w7 r4 3 (J 0))) (by decide +kernel) rfl ⟨⟨h1, h5⟩, ⟨(kin_alen h6), (vin_J h6 (by unfold vp_in; decide))⟩, trivial⟩ ?_
  refine sim_lt (x := (si w7 r4 3 (J 0))) ?_
  generalize (si w7 r4 3 (J 0)) = w8
  refine sim_seg [(.getfield 7, 6, 0, 0), (.bipush 8, 0, 0, 8), (.iconst 0, 0, 0, 0), (.iastore, 0, 0, 0), (.aload_n 0, 0, 0, 0)] [r4] (q := 32) (L' := [some (.ref a0), some (.int b1), none]) (st' := [.ref a0]) (v1 := (si w8 r4 8 (J 0))) (by decide +kernel) rfl ⟨⟨h1, h5⟩, ⟨(kin_alen h6), (vin_J h6 (by unfold vp_in; decide))⟩, trivial⟩ ?_
  refine sim_lt (x := (si w8 r4 8 (J 0))) ?_
  generalize (si w8 r4 8 (J 0)) = w9
  refine sim_seg [(.getfield 7, 6, 0, 0), (.bipush 7, 0, 0, 7), (.iconst 0, 0, 0, 0), (.iastore, 0, 0, 0), (.aload_n 0, 0, 0, 0), (.iload_n 1, 0, 0, 0)] [r4] (q := 41) (L' := [some (.ref a0), some (.int b1), none]) (st' := [.int b1, .ref a0]) (v1 := (si w9 r4 7 (J 0))) (by decide +kernel) rfl ⟨⟨h1, h5⟩, ⟨(kin_alen h6), (vin_J h6 (by unfold vp_in; decide))⟩, trivial⟩ ?_
  refine sim_lt (x := (si w9 r4 7 (J 0))) ?_
  generalize (si w9 r4 7 (J 0)) = w10
  refine sc_pi (pc3 := 44) (cf_V (idx := 320) (ci := 6) [.int b1] m_gm_measures (by decide) ⟨by decide, by decide⟩ (List.mem_of_getElem? (i := 1984) (by decide +kernel)) rfl (Nat.le_of_ble_eq_true rfl) h1 (by decide +kernel) (Nat.le_of_ble_eq_true rfl) rfl) (ok_gm_measures N a0 b1 S w10) rfl (fun x11 w12 => ?_)
  refine sim_seg [(.istore_n 2, 0, 0, 0)] [] (q := 45) (L' := [some (.ref a0), some (.int b1), some (.int x11)]) (st' := []) (v1 := w12) (by decide +kernel) rfl trivial ?_
  refine sim_seg [(.aload_n 0, 0, 0, 0), (.iload_n 2, 0, 0, 0)] [] (q := 47) (L' := [some (.ref a0), some (.int b1), some (.int x11)]) (st' := [.int x11, .ref a0]) (v1 := w12) (by decide +kernel) rfl trivial ?_
  refine sim_eq0 (o := 7) (tg := 54) (f := 50) (by decide +kernel) rfl rfl (fun _ => ?_) (fun _ => ?_)
  · refine sim_seg [(.aload_n 0, 0, 0, 0), (.iload_n 1, 0, 0, 0)] [] (q := 56) (L' := [some (.ref a0), some (.int b1), some (.int x11)]) (st' := [.int b1, .ref a0, .ref a0]) (v1 := w12) (by decide +kernel) rfl trivial ?_
    refine sc_ri (pc3 := 59) (cf_V (idx := 141) (ci := 6) [.int b1] m_gm_madeValue (by decide) ⟨by decide, by decide⟩ (List.mem_of_getElem? (i := 2012) (by decide +kernel)) rfl (Nat.le_of_ble_eq_true rfl) h1 (by decide +kernel) (Nat.le_of_ble_eq_true rfl) rfl) (ok_gm_madeValue a0 b1 S w12) rfl (fun x13 => ?_)
    refine sc_pi (pc3 := 62) (cf_V (idx := 301) (ci := 6) [.int x13] m_gm_back (by decide) ⟨by decide, by decide⟩ (List.mem_of_getElem? (i := 1919) (by decide +kernel)) rfl (Nat.le_of_ble_eq_true rfl) h1 (by decide +kernel) (Nat.le_of_ble_eq_true rfl) rfl) (ok_gm_back N a0 x13 S w12) rfl (fun x14 w15 => ?_)
    exact sim_iret (by decide +kernel) rfl rfl rfl
  · refine sim_seg [(.iconst (-1), 0, 0, (-1)), (.goto 8, 0, 0, 0)] [] (q := 59) (L' := [some (.ref a0), some (.int b1), some (.int x11)]) (st' := [.int (J (-1)), .ref a0]) (v1 := w12) (by decide +kernel) rfl trivial ?_
    refine sc_pi (pc3 := 62) (cf_V (idx := 301) (ci := 6) [.int (J (-1))] m_gm_back (by decide) ⟨by decide, by decide⟩ (List.mem_of_getElem? (i := 1919) (by decide +kernel)) rfl (Nat.le_of_ble_eq_true rfl) h1 (by decide +kernel) (Nat.le_of_ble_eq_true rfl) rfl) (ok_gm_back N a0 (J (-1)) S w12) rfl (fun x16 w17 => ?_)
    exact sim_iret (by decide +kernel) rfl rfl rfl
def B_gm_apart : bd := (⟨"GateCounterModel", "apart", "()I"⟩, prog_8_method_90_code, 3, (some .int), [], 6, 8)
theorem m_gm_apart : mV B_gm_apart 6 0 := ⟨⟨⟨by decide +kernel, Or.inl rfl⟩, rfl, (List.mem_of_getElem? (i := 2048) (by decide +kernel)), by decide +kernel, (List.mem_of_getElem? (i := 104) (by decide +kernel)), ⟨by decide, by decide⟩, by decide⟩, rfl, (by unfold nar; decide +kernel), (List.mem_of_getElem? (i := 2046) (by decide +kernel)), rfl, (List.mem_of_getElem? (i := 2047) (by decide +kernel))⟩
noncomputable def F_gm_apart (N : Nat) (a0 : Nat) (S : shp) (v : vl) : Option (Int32 × vl) :=
  grd (kin S a0 = some (0, 6)) <| lt (si v a0 10 (J 0)) fun w2 => (F_gm_foretold N a0 (J 0) (J 4) S w2).bind fun (x3, w4) => (F_gm_foretold N a0 (J 1) (J 4) S w4).bind fun (x5, w6) => (if x3 = (J (-1)) then some (((J (-1)), w6)) else (if x5 = (J (-1)) then some (((J (-1)), w6)) else (F_ma_abs (x3 - x5) S w6).bind fun x7 => some ((x7, w6))))
theorem ok_gm_apart (N : Nat) (a0 : Nat) (S : shp) (v : vl) : SimK B_gm_apart 0 (entB (bN B_gm_apart) [.ref a0]) [] S v (F_gm_apart N a0 S v) (ρpi S) := by
  show SimK B_gm_apart 0 [some (.ref a0), none, none] [] S v (F_gm_apart N a0 S v) _
  unfold F_gm_apart
  refine sim_grd fun h1 => ?_
  refine sim_seg [(.aload_n 0, 0, 0, 0), (.iconst 0, 0, 0, 0), (.putfield 38, 6, 10, 0), (.aload_n 0, 0, 0, 0), (.iconst 0, 0, 0, 0), (.iconst 4, 0, 0, 4)] [] (q := 8) (L' := [some (.ref a0), none, none]) (st' := [.int (J 4), .int (J 0), .ref a0]) (v1 := (si v a0 10 (J 0))) (by decide +kernel) rfl ⟨h1, trivial⟩ ?_
  refine sim_lt (x := (si v a0 10 (J 0))) ?_
  generalize (si v a0 10 (J 0)) = w2
  refine sc_pi (pc3 := 11) (cf_V (idx := 323) (ci := 6) [.int (J 0), .int (J 4)] m_gm_foretold (by decide) ⟨by decide, by decide⟩ (List.mem_of_getElem? (i := 1980) (by decide +kernel)) rfl (Nat.le_of_ble_eq_true rfl) h1 (by decide +kernel) (Nat.le_of_ble_eq_true rfl) rfl) (ok_gm_foretold N a0 (J 0) (J 4) S w2) rfl (fun x3 w4 => ?_)
  refine sim_seg [(.istore_n 1, 0, 0, 0)] [] (q := 12) (L' := [some (.ref a0), some (.int x3), none]) (st' := []) (v1 := w4) (by decide +kernel) rfl trivial ?_
  refine sim_seg [(.aload_n 0, 0, 0, 0), (.iconst 1, 0, 0, 1), (.iconst 4, 0, 0, 4)] [] (q := 15) (L' := [some (.ref a0), some (.int x3), none]) (st' := [.int (J 4), .int (J 1), .ref a0]) (v1 := w4) (by decide +kernel) rfl trivial ?_
  refine sc_pi (pc3 := 18) (cf_V (idx := 323) (ci := 6) [.int (J 1), .int (J 4)] m_gm_foretold (by decide) ⟨by decide, by decide⟩ (List.mem_of_getElem? (i := 1980) (by decide +kernel)) rfl (Nat.le_of_ble_eq_true rfl) h1 (by decide +kernel) (Nat.le_of_ble_eq_true rfl) rfl) (ok_gm_foretold N a0 (J 1) (J 4) S w4) rfl (fun x5 w6 => ?_)
  refine sim_seg [(.istore_n 2, 0, 0, 0)] [] (q := 19) (L' := [some (.ref a0), some (.int x3), some (.int x5)]) (st' := []) (v1 := w6) (by decide +kernel) rfl trivial ?_
  refine sim_seg [(.iload_n 1, 0, 0, 0), (.iconst (-1), 0, 0, (-1))] [] (q := 21) (L' := [some (.ref a0), some (.int x3), some (.int x5)]) (st' := [.int (J (-1)), .int x3]) (v1 := w6) (by decide +kernel) rfl trivial ?_
  refine sim_eq (o := 8) (tg := 29) (f := 24) (by decide +kernel) rfl rfl (fun _ => ?_) (fun _ => ?_)
  · refine sim_seg [(.iconst (-1), 0, 0, (-1)), (.goto 9, 0, 0, 0)] [] (q := 39) (L' := [some (.ref a0), some (.int x3), some (.int x5)]) (st' := [.int (J (-1))]) (v1 := w6) (by decide +kernel) rfl trivial ?_
    exact sim_iret (by decide +kernel) rfl rfl rfl
  · refine sim_seg [(.iload_n 2, 0, 0, 0), (.iconst (-1), 0, 0, (-1))] [] (q := 26) (L' := [some (.ref a0), some (.int x3), some (.int x5)]) (st' := [.int (J (-1)), .int x5]) (v1 := w6) (by decide +kernel) rfl trivial ?_
    refine sim_ne (o := 7) (tg := 33) (f := 29) (by decide +kernel) rfl rfl (fun _ => ?_) (fun _ => ?_)
    · refine sim_seg [(.iconst (-1), 0, 0, (-1)), (.goto 9, 0, 0, 0)] [] (q := 39) (L' := [some (.ref a0), some (.int x3), some (.int x5)]) (st' := [.int (J (-1))]) (v1 := w6) (by decide +kernel) rfl trivial ?_
      exact sim_iret (by decide +kernel) rfl rfl rfl
    · refine sim_seg [(.iload_n 1, 0, 0, 0), (.iload_n 2, 0, 0, 0), (.isub, 0, 0, 0)] [] (q := 36) (L' := [some (.ref a0), some (.int x3), some (.int x5)]) (st' := [.int (x3 - x5)]) (v1 := w6) (by decide +kernel) rfl trivial ?_
      refine sc_ri (pc3 := 39) (cf_S (idx := 317) [.int (x3 - x5)] m_ma_abs ⟨by decide, by decide⟩ (List.mem_of_getElem? (i := 1975) (by decide +kernel)) rfl (Nat.le_of_ble_eq_true rfl) (by decide +kernel) (Nat.le_of_ble_eq_true rfl) rfl) (ok_ma_abs (x3 - x5) S w6) rfl (fun x7 => ?_)
      exact sim_iret (by decide +kernel) rfl rfl rfl
def B_gm_noDigits : bd := (⟨"GateCounterModel", "noDigits", "(I)Z"⟩, prog_8_method_91_code, 2, (some .boolean), [], 6, 1)
theorem m_gm_noDigits : mV B_gm_noDigits 6 1 := ⟨⟨⟨by decide +kernel, Or.inl rfl⟩, rfl, (List.mem_of_getElem? (i := 2056) (by decide +kernel)), by decide +kernel, (List.mem_of_getElem? (i := 104) (by decide +kernel)), ⟨by decide, by decide⟩, by decide⟩, rfl, (by unfold nar; decide +kernel), (List.mem_of_getElem? (i := 2055) (by decide +kernel)), rfl, (List.mem_of_getElem? (i := 82) (by decide +kernel))⟩
noncomputable def F_gm_noDigits (a0 : Nat) (b1 : Int32) (S : shp) (v : vl) : Option (Int32 × vl) :=
  (F_gm_inRange b1 (J 1) (J 6) S v).bind fun x1 => (if x1 = (J 0) then grd (kin S a0 = some (0, 6)) <| (F_gm_fails a0 (J 1) (J 1) S v).bind fun (x3, w4) => grd (narrow .boolean (.int x3) = .int x3) <| some ((x3, w4)) else grd (kin S a0 = some (0, 6)) <| (F_gm_fails a0 (J 0) (J 1) S v).bind fun (x7, w8) => grd (narrow .boolean (.int x7) = .int x7) <| some ((x7, w8)))
theorem ok_gm_noDigits (a0 : Nat) (b1 : Int32) (S : shp) (v : vl) : SimK B_gm_noDigits 0 (entB (bN B_gm_noDigits) [.ref a0, .int b1]) [] S v (F_gm_noDigits a0 b1 S v) (ρpi S) := by
  show SimK B_gm_noDigits 0 [some (.ref a0), some (.int b1)] [] S v (F_gm_noDigits a0 b1 S v) _
  unfold F_gm_noDigits
  refine sim_seg [(.aload_n 0, 0, 0, 0), (.iload_n 1, 0, 0, 0), (.iconst 1, 0, 0, 1), (.bipush 6, 0, 0, 6)] [] (q := 5) (L' := [some (.ref a0), some (.int b1)]) (st' := [.int (J 6), .int (J 1), .int b1, .ref a0]) (v1 := v) (by decide +kernel) rfl trivial ?_
  refine sc_ri (pc3 := 8) (cf_S (idx := 41) [.int b1, .int (J 1), .int (J 6)] m_gm_inRange ⟨by decide, by decide⟩ (List.mem_of_getElem? (i := 1712) (by decide +kernel)) rfl (Nat.le_of_ble_eq_true rfl) (by decide +kernel) (Nat.le_of_ble_eq_true rfl) rfl) (ok_gm_inRange b1 (J 1) (J 6) S v) rfl (fun x1 => ?_)
  refine sim_ne0 (o := 7) (tg := 15) (f := 11) (by decide +kernel) rfl rfl (fun _ => ?_) (fun _ => ?_)
  · refine sim_seg [(.iconst 1, 0, 0, 1), (.goto 4, 0, 0, 0), (.iconst 1, 0, 0, 1)] [] (q := 17) (L' := [some (.ref a0), some (.int b1)]) (st' := [.int (J 1), .int (J 1), .ref a0]) (v1 := v) (by decide +kernel) rfl trivial ?_
    refine sim_grd fun h2 => ?_
    refine sc_pi (pc3 := 20) (cf_V (idx := 279) (ci := 6) [.int (J 1), .int (J 1)] m_gm_fails (by decide) ⟨by decide, by decide⟩ (List.mem_of_getElem? (i := 1827) (by decide +kernel)) rfl (Nat.le_of_ble_eq_true rfl) h2 (by decide +kernel) (Nat.le_of_ble_eq_true rfl) rfl) (ok_gm_fails a0 (J 1) (J 1) S v) rfl (fun x3 w4 => ?_)
    refine sim_grd fun h5 => ?_
    exact sim_iret (by decide +kernel) rfl h5 rfl
  · refine sim_seg [(.iconst 0, 0, 0, 0), (.iconst 1, 0, 0, 1)] [] (q := 17) (L' := [some (.ref a0), some (.int b1)]) (st' := [.int (J 1), .int (J 0), .ref a0]) (v1 := v) (by decide +kernel) rfl trivial ?_
    refine sim_grd fun h6 => ?_
    refine sc_pi (pc3 := 20) (cf_V (idx := 279) (ci := 6) [.int (J 0), .int (J 1)] m_gm_fails (by decide) ⟨by decide, by decide⟩ (List.mem_of_getElem? (i := 1827) (by decide +kernel)) rfl (Nat.le_of_ble_eq_true rfl) h6 (by decide +kernel) (Nat.le_of_ble_eq_true rfl) rfl) (ok_gm_fails a0 (J 0) (J 1) S v) rfl (fun x7 w8 => ?_)
    refine sim_grd fun h9 => ?_
    exact sim_iret (by decide +kernel) rfl h9 rfl
def B_gm_gateFor : bd := (⟨"GateCounterModel", "gateFor", "(I)I"⟩, prog_8_method_92_code, 3, (some .int), [], 6, 5)
theorem m_gm_gateFor : mV B_gm_gateFor 6 1 := ⟨⟨⟨by decide +kernel, Or.inl rfl⟩, rfl, (List.mem_of_getElem? (i := 2052) (by decide +kernel)), by decide +kernel, (List.mem_of_getElem? (i := 104) (by decide +kernel)), ⟨by decide, by decide⟩, by decide⟩, rfl, (by unfold nar; decide +kernel), (List.mem_of_getElem? (i := 2050) (by decide +kernel)), rfl, (List.mem_of_getElem? (i := 2051) (by decide +kernel))⟩
noncomputable def Y_gm_gateFor_39 (N : Nat)  (i39 : vl → Nat → Int32 → Int32 → Option (Int32 × vl)) (S : shp) (v : vl) (p0 : Nat) (p1 : Int32) (p2 : Int32) : Option (Int32 × vl) :=
  (if (J 9999) < p2 then grd (kin S p0 = some (0, 6)) <| (F_gm_back N p0 (J (-1)) S v).bind fun (x12, w13) => some ((x12, w13)) else grd (kin S p0 = some (0, 6)) <| (F_gm_countsTo N p0 (J 2) (J 4) S v).bind fun (x15, w16) => (if x15 = (J 0) then (F_gm_back N p0 (J (-1)) S w16).bind fun (x17, w18) => some ((x17, w18)) else (F_gm_digitsOf N (gi w16 p0 13) S w16).bind fun x19 => (if x19 < p1 then i39 w16 p0 p1 (p2 + (J 1)) else (F_gm_back N p0 p2 S w16).bind fun (x20, w21) => some ((x20, w21)))))
noncomputable def K_gm_gateFor_39 (N : Nat)  (n : Nat) (S : shp) : vl → Nat → Int32 → Int32 → Option (Int32 × vl) :=
  Nat.rec (motive := fun _ => vl → Nat → Int32 → Int32 → Option (Int32 × vl)) (fun _ _ _ _ => none) (fun _ i => Y_gm_gateFor_39 N  i S) n
theorem sY_gm_gateFor_39 (N : Nat)  (i39 : vl → Nat → Int32 → Int32 → Option (Int32 × vl)) (S : shp)  (j39 : ∀ (v : vl) (p0 : Nat) (p1 : Int32) (p2 : Int32), SimK B_gm_gateFor 39 [some (.ref p0), some (.int p1), some (.int p2)] [] S v (i39 v p0 p1 p2) (ρpi S)) (v : vl) (p0 : Nat) (p1 : Int32) (p2 : Int32) : SimK B_gm_gateFor 39 [some (.ref p0), some (.int p1), some (.int p2)] [] S v (Y_gm_gateFor_39 N  i39 S v p0 p1 p2) (ρpi S) := by
  unfold Y_gm_gateFor_39
  refine sim_seg [(.iload_n 2, 0, 0, 0), (.sipush 9999, 0, 0, 9999)] [] (q := 43) (L' := [some (.ref p0), some (.int p1), some (.int p2)]) (st' := [.int (J 9999), .int p2]) (v1 := v) (by decide +kernel) rfl trivial ?_
  refine sim_gt (o := 41) (tg := 84) (f := 46) (by decide +kernel) rfl rfl (fun _ => ?_) (fun _ => ?_)
  · refine sim_seg [(.aload_n 0, 0, 0, 0), (.iconst (-1), 0, 0, (-1))] [] (q := 86) (L' := [some (.ref p0), some (.int p1), some (.int p2)]) (st' := [.int (J (-1)), .ref p0]) (v1 := v) (by decide +kernel) rfl trivial ?_
    refine sim_grd fun h11 => ?_
    refine sc_pi (pc3 := 89) (cf_V (idx := 301) (ci := 6) [.int (J (-1))] m_gm_back (by decide) ⟨by decide, by decide⟩ (List.mem_of_getElem? (i := 1919) (by decide +kernel)) rfl (Nat.le_of_ble_eq_true rfl) h11 (by decide +kernel) (Nat.le_of_ble_eq_true rfl) rfl) (ok_gm_back N p0 (J (-1)) S v) rfl (fun x12 w13 => ?_)
    exact sim_iret (by decide +kernel) rfl rfl rfl
  · refine sim_seg [(.aload_n 0, 0, 0, 0), (.iconst 2, 0, 0, 2), (.iconst 4, 0, 0, 4)] [] (q := 49) (L' := [some (.ref p0), some (.int p1), some (.int p2)]) (st' := [.int (J 4), .int (J 2), .ref p0]) (v1 := v) (by decide +kernel) rfl trivial ?_
    refine sim_grd fun h14 => ?_
    refine sc_pi (pc3 := 52) (cf_V (idx := 114) (ci := 6) [.int (J 2), .int (J 4)] m_gm_countsTo (by decide) ⟨by decide, by decide⟩ (List.mem_of_getElem? (i := 2000) (by decide +kernel)) rfl (Nat.le_of_ble_eq_true rfl) h14 (by decide +kernel) (Nat.le_of_ble_eq_true rfl) rfl) (ok_gm_countsTo N p0 (J 2) (J 4) S v) rfl (fun x15 w16 => ?_)
    refine sim_ne0 (o := 9) (tg := 61) (f := 55) (by decide +kernel) rfl rfl (fun _ => ?_) (fun _ => ?_)
    · refine sim_seg [(.aload_n 0, 0, 0, 0), (.iconst (-1), 0, 0, (-1))] [] (q := 57) (L' := [some (.ref p0), some (.int p1), some (.int p2)]) (st' := [.int (J (-1)), .ref p0]) (v1 := w16) (by decide +kernel) rfl trivial ?_
      refine sc_pi (pc3 := 60) (cf_V (idx := 301) (ci := 6) [.int (J (-1))] m_gm_back (by decide) ⟨by decide, by decide⟩ (List.mem_of_getElem? (i := 1919) (by decide +kernel)) rfl (Nat.le_of_ble_eq_true rfl) h14 (by decide +kernel) (Nat.le_of_ble_eq_true rfl) rfl) (ok_gm_back N p0 (J (-1)) S w16) rfl (fun x17 w18 => ?_)
      exact sim_iret (by decide +kernel) rfl rfl rfl
    · refine sim_seg [(.aload_n 0, 0, 0, 0), (.getfield 96, 6, 13, 0)] [] (q := 65) (L' := [some (.ref p0), some (.int p1), some (.int p2)]) (st' := [.int (gi w16 p0 13)]) (v1 := w16) (by decide +kernel) rfl ⟨h14, trivial⟩ ?_
      refine sc_ri (pc3 := 68) (cf_S (idx := 145) [.int (gi w16 p0 13)] m_gm_digitsOf ⟨by decide, by decide⟩ (List.mem_of_getElem? (i := 2029) (by decide +kernel)) rfl (Nat.le_of_ble_eq_true rfl) (by decide +kernel) (Nat.le_of_ble_eq_true rfl) rfl) (ok_gm_digitsOf N (gi w16 p0 13) S w16) rfl (fun x19 => ?_)
      refine sim_seg [(.iload_n 1, 0, 0, 0)] [] (q := 69) (L' := [some (.ref p0), some (.int p1), some (.int p2)]) (st' := [.int p1, .int x19]) (v1 := w16) (by decide +kernel) rfl trivial ?_
      refine sim_lt' (o := 9) (tg := 78) (f := 72) (by decide +kernel) rfl rfl (fun _ => ?_) (fun _ => ?_)
      · refine sim_seg [(.iinc 2 1, 0, 0, 1)] [] (q := 81) (L' := [some (.ref p0), some (.int p1), some (.int (p2 + (J 1)))]) (st' := []) (v1 := w16) (by decide +kernel) rfl trivial ?_
        refine sim_seg [(.goto (-42), 0, 0, 0)] [] (q := 39) (L' := [some (.ref p0), some (.int p1), some (.int (p2 + (J 1)))]) (st' := []) (v1 := w16) (by decide +kernel) rfl trivial ?_
        exact j39 w16 p0 p1 (p2 + (J 1))
      · refine sim_seg [(.aload_n 0, 0, 0, 0), (.iload_n 2, 0, 0, 0)] [] (q := 74) (L' := [some (.ref p0), some (.int p1), some (.int p2)]) (st' := [.int p2, .ref p0]) (v1 := w16) (by decide +kernel) rfl trivial ?_
        refine sc_pi (pc3 := 77) (cf_V (idx := 301) (ci := 6) [.int p2] m_gm_back (by decide) ⟨by decide, by decide⟩ (List.mem_of_getElem? (i := 1919) (by decide +kernel)) rfl (Nat.le_of_ble_eq_true rfl) h14 (by decide +kernel) (Nat.le_of_ble_eq_true rfl) rfl) (ok_gm_back N p0 p2 S w16) rfl (fun x20 w21 => ?_)
        exact sim_iret (by decide +kernel) rfl rfl rfl
theorem sR_gm_gateFor_39 (N : Nat)  (S : shp)  (n : Nat) : ∀ (v : vl) (p0 : Nat) (p1 : Int32) (p2 : Int32), SimK B_gm_gateFor 39 [some (.ref p0), some (.int p1), some (.int p2)] [] S v (K_gm_gateFor_39 N  n S v p0 p1 p2) (ρpi S) := by
  induction n with
  | zero => intro v p0 p1 p2; exact sim_none
  | succ k ih => intro v p0 p1 p2; exact sY_gm_gateFor_39 N   _ S  ih v p0 p1 p2
theorem sK_gm_gateFor_39 (N : Nat)  (n : Nat) (S : shp) (v : vl) (p0 : Nat) (p1 : Int32) (p2 : Int32) : SimK B_gm_gateFor 39 [some (.ref p0), some (.int p1), some (.int p2)] [] S v (K_gm_gateFor_39 N  n S v p0 p1 p2) (ρpi S) := sR_gm_gateFor_39 N   S  n  v p0 p1 p2
noncomputable def F_gm_gateFor (N : Nat) (a0 : Nat) (b1 : Int32) (S : shp) (v : vl) : Option (Int32 × vl) :=
  grd (kin S a0 = some (0, 6)) <| lt (si v a0 10 (J 0)) fun w2 => (F_gm_noDigits a0 b1 S w2).bind fun (x3, w4) => (if x3 = (J 0) then (F_gm_thinks N a0 S w4).bind fun w5 => (F_gm_waitsFor N a0 (J 2) S w5).bind fun (x6, w7) => (if x6 = (J 0) then (F_gm_back N a0 (J (-1)) S w7).bind fun (x8, w9) => some ((x8, w9)) else (F_gm_beginsNow a0 S w7).bind fun w10 => K_gm_gateFor_39 N  N S w10 a0 b1 (J 1)) else some (((J 0), w4)))
theorem ok_gm_gateFor (N : Nat) (a0 : Nat) (b1 : Int32) (S : shp) (v : vl) : SimK B_gm_gateFor 0 (entB (bN B_gm_gateFor) [.ref a0, .int b1]) [] S v (F_gm_gateFor N a0 b1 S v) (ρpi S) := by
  show SimK B_gm_gateFor 0 [some (.ref a0), some (.int b1), none] [] S v (F_gm_gateFor N a0 b1 S v) _
  unfold F_gm_gateFor
  refine sim_grd fun h1 => ?_
  refine sim_seg [(.aload_n 0, 0, 0, 0), (.iconst 0, 0, 0, 0), (.putfield 38, 6, 10, 0), (.aload_n 0, 0, 0, 0), (.iload_n 1, 0, 0, 0)] [] (q := 7) (L' := [some (.ref a0), some (.int b1), none]) (st' := [.int b1, .ref a0]) (v1 := (si v a0 10 (J 0))) (by decide +kernel) rfl ⟨h1, trivial⟩ ?_
  refine sim_lt (x := (si v a0 10 (J 0))) ?_
  generalize (si v a0 10 (J 0)) = w2
  refine sc_pi (pc3 := 10) (cf_V (idx := 328) (ci := 6) [.int b1] m_gm_noDigits (by decide) ⟨by decide, by decide⟩ (List.mem_of_getElem? (i := 2053) (by decide +kernel)) rfl (Nat.le_of_ble_eq_true rfl) h1 (by decide +kernel) (Nat.le_of_ble_eq_true rfl) rfl) (ok_gm_noDigits a0 b1 S w2) rfl (fun x3 w4 => ?_)
  refine sim_eq0 (o := 5) (tg := 15) (f := 13) (by decide +kernel) rfl rfl (fun _ => ?_) (fun _ => ?_)
  · refine sim_seg [(.aload_n 0, 0, 0, 0)] [] (q := 16) (L' := [some (.ref a0), some (.int b1), none]) (st' := [.ref a0]) (v1 := w4) (by decide +kernel) rfl trivial ?_
    refine sc_pv (pc3 := 19) (cf_V (idx := 295) (ci := 6) [] m_gm_thinks (by decide) ⟨by decide, by decide⟩ (List.mem_of_getElem? (i := 1884) (by decide +kernel)) rfl (Nat.le_of_ble_eq_true rfl) h1 (by decide +kernel) (Nat.le_of_ble_eq_true rfl) rfl) (ok_gm_thinks N a0 S w4) rfl (fun w5 => ?_)
    refine sim_seg [(.aload_n 0, 0, 0, 0), (.iconst 2, 0, 0, 2)] [] (q := 21) (L' := [some (.ref a0), some (.int b1), none]) (st' := [.int (J 2), .ref a0]) (v1 := w5) (by decide +kernel) rfl trivial ?_
    refine sc_pi (pc3 := 24) (cf_V (idx := 108) (ci := 6) [.int (J 2)] m_gm_waitsFor (by decide) ⟨by decide, by decide⟩ (List.mem_of_getElem? (i := 1939) (by decide +kernel)) rfl (Nat.le_of_ble_eq_true rfl) h1 (by decide +kernel) (Nat.le_of_ble_eq_true rfl) rfl) (ok_gm_waitsFor N a0 (J 2) S w5) rfl (fun x6 w7 => ?_)
    refine sim_ne0 (o := 9) (tg := 33) (f := 27) (by decide +kernel) rfl rfl (fun _ => ?_) (fun _ => ?_)
    · refine sim_seg [(.aload_n 0, 0, 0, 0), (.iconst (-1), 0, 0, (-1))] [] (q := 29) (L' := [some (.ref a0), some (.int b1), none]) (st' := [.int (J (-1)), .ref a0]) (v1 := w7) (by decide +kernel) rfl trivial ?_
      refine sc_pi (pc3 := 32) (cf_V (idx := 301) (ci := 6) [.int (J (-1))] m_gm_back (by decide) ⟨by decide, by decide⟩ (List.mem_of_getElem? (i := 1919) (by decide +kernel)) rfl (Nat.le_of_ble_eq_true rfl) h1 (by decide +kernel) (Nat.le_of_ble_eq_true rfl) rfl) (ok_gm_back N a0 (J (-1)) S w7) rfl (fun x8 w9 => ?_)
      exact sim_iret (by decide +kernel) rfl rfl rfl
    · refine sim_seg [(.aload_n 0, 0, 0, 0)] [] (q := 34) (L' := [some (.ref a0), some (.int b1), none]) (st' := [.ref a0]) (v1 := w7) (by decide +kernel) rfl trivial ?_
      refine sc_pv (pc3 := 37) (cf_V (idx := 111) (ci := 6) [] m_gm_beginsNow (by decide) ⟨by decide, by decide⟩ (List.mem_of_getElem? (i := 1996) (by decide +kernel)) rfl (Nat.le_of_ble_eq_true rfl) h1 (by decide +kernel) (Nat.le_of_ble_eq_true rfl) rfl) (ok_gm_beginsNow a0 S w7) rfl (fun w10 => ?_)
      refine sim_seg [(.iconst 1, 0, 0, 1), (.istore_n 2, 0, 0, 0)] [] (q := 39) (L' := [some (.ref a0), some (.int b1), some (.int (J 1))]) (st' := []) (v1 := w10) (by decide +kernel) rfl trivial ?_
      exact sK_gm_gateFor_39 N N S w10 a0 b1 (J 1)
  · refine sim_seg [(.iconst 0, 0, 0, 0)] [] (q := 14) (L' := [some (.ref a0), some (.int b1), none]) (st' := [.int (J 0)]) (v1 := w4) (by decide +kernel) rfl trivial ?_
    exact sim_iret (by decide +kernel) rfl rfl rfl
def B_gm_periodsFor : bd := (⟨"GateCounterModel", "periodsFor", "(I)I"⟩, prog_8_method_93_code, 3, (some .int), [], 6, 5)
theorem m_gm_periodsFor : mV B_gm_periodsFor 6 1 := ⟨⟨⟨by decide +kernel, Or.inl rfl⟩, rfl, (List.mem_of_getElem? (i := 2060) (by decide +kernel)), by decide +kernel, (List.mem_of_getElem? (i := 104) (by decide +kernel)), ⟨by decide, by decide⟩, by decide⟩, rfl, (by unfold nar; decide +kernel), (List.mem_of_getElem? (i := 2058) (by decide +kernel)), rfl, (List.mem_of_getElem? (i := 2059) (by decide +kernel))⟩
noncomputable def Y_gm_periodsFor_39 (N : Nat)  (i39 : vl → Nat → Int32 → Int32 → Option (Int32 × vl)) (S : shp) (v : vl) (p0 : Nat) (p1 : Int32) (p2 : Int32) : Option (Int32 × vl) :=
  (if (J 999) < p2 then grd (kin S p0 = some (0, 6)) <| (F_gm_back N p0 (J (-1)) S v).bind fun (x12, w13) => some ((x12, w13)) else grd (kin S p0 = some (0, 6)) <| (F_gm_countsTo N p0 (J 4) (J 2) S v).bind fun (x15, w16) => (if x15 = (J 0) then (F_gm_back N p0 (J (-1)) S w16).bind fun (x17, w18) => some ((x17, w18)) else (F_gm_digitsOf N (gi w16 p0 13) S w16).bind fun x19 => (if x19 < p1 then i39 w16 p0 p1 (p2 + (J 1)) else (F_gm_back N p0 p2 S w16).bind fun (x20, w21) => some ((x20, w21)))))
noncomputable def K_gm_periodsFor_39 (N : Nat)  (n : Nat) (S : shp) : vl → Nat → Int32 → Int32 → Option (Int32 × vl) :=
  Nat.rec (motive := fun _ => vl → Nat → Int32 → Int32 → Option (Int32 × vl)) (fun _ _ _ _ => none) (fun _ i => Y_gm_periodsFor_39 N  i S) n
theorem sY_gm_periodsFor_39 (N : Nat)  (i39 : vl → Nat → Int32 → Int32 → Option (Int32 × vl)) (S : shp)  (j39 : ∀ (v : vl) (p0 : Nat) (p1 : Int32) (p2 : Int32), SimK B_gm_periodsFor 39 [some (.ref p0), some (.int p1), some (.int p2)] [] S v (i39 v p0 p1 p2) (ρpi S)) (v : vl) (p0 : Nat) (p1 : Int32) (p2 : Int32) : SimK B_gm_periodsFor 39 [some (.ref p0), some (.int p1), some (.int p2)] [] S v (Y_gm_periodsFor_39 N  i39 S v p0 p1 p2) (ρpi S) := by
  unfold Y_gm_periodsFor_39
  refine sim_seg [(.iload_n 2, 0, 0, 0), (.sipush 999, 0, 0, 999)] [] (q := 43) (L' := [some (.ref p0), some (.int p1), some (.int p2)]) (st' := [.int (J 999), .int p2]) (v1 := v) (by decide +kernel) rfl trivial ?_
  refine sim_gt (o := 41) (tg := 84) (f := 46) (by decide +kernel) rfl rfl (fun _ => ?_) (fun _ => ?_)
  · refine sim_seg [(.aload_n 0, 0, 0, 0), (.iconst (-1), 0, 0, (-1))] [] (q := 86) (L' := [some (.ref p0), some (.int p1), some (.int p2)]) (st' := [.int (J (-1)), .ref p0]) (v1 := v) (by decide +kernel) rfl trivial ?_
    refine sim_grd fun h11 => ?_
    refine sc_pi (pc3 := 89) (cf_V (idx := 301) (ci := 6) [.int (J (-1))] m_gm_back (by decide) ⟨by decide, by decide⟩ (List.mem_of_getElem? (i := 1919) (by decide +kernel)) rfl (Nat.le_of_ble_eq_true rfl) h11 (by decide +kernel) (Nat.le_of_ble_eq_true rfl) rfl) (ok_gm_back N p0 (J (-1)) S v) rfl (fun x12 w13 => ?_)
    exact sim_iret (by decide +kernel) rfl rfl rfl
  · refine sim_seg [(.aload_n 0, 0, 0, 0), (.iconst 4, 0, 0, 4), (.iconst 2, 0, 0, 2)] [] (q := 49) (L' := [some (.ref p0), some (.int p1), some (.int p2)]) (st' := [.int (J 2), .int (J 4), .ref p0]) (v1 := v) (by decide +kernel) rfl trivial ?_
    refine sim_grd fun h14 => ?_
    refine sc_pi (pc3 := 52) (cf_V (idx := 114) (ci := 6) [.int (J 4), .int (J 2)] m_gm_countsTo (by decide) ⟨by decide, by decide⟩ (List.mem_of_getElem? (i := 2000) (by decide +kernel)) rfl (Nat.le_of_ble_eq_true rfl) h14 (by decide +kernel) (Nat.le_of_ble_eq_true rfl) rfl) (ok_gm_countsTo N p0 (J 4) (J 2) S v) rfl (fun x15 w16 => ?_)
    refine sim_ne0 (o := 9) (tg := 61) (f := 55) (by decide +kernel) rfl rfl (fun _ => ?_) (fun _ => ?_)
    · refine sim_seg [(.aload_n 0, 0, 0, 0), (.iconst (-1), 0, 0, (-1))] [] (q := 57) (L' := [some (.ref p0), some (.int p1), some (.int p2)]) (st' := [.int (J (-1)), .ref p0]) (v1 := w16) (by decide +kernel) rfl trivial ?_
      refine sc_pi (pc3 := 60) (cf_V (idx := 301) (ci := 6) [.int (J (-1))] m_gm_back (by decide) ⟨by decide, by decide⟩ (List.mem_of_getElem? (i := 1919) (by decide +kernel)) rfl (Nat.le_of_ble_eq_true rfl) h14 (by decide +kernel) (Nat.le_of_ble_eq_true rfl) rfl) (ok_gm_back N p0 (J (-1)) S w16) rfl (fun x17 w18 => ?_)
      exact sim_iret (by decide +kernel) rfl rfl rfl
    · refine sim_seg [(.aload_n 0, 0, 0, 0), (.getfield 96, 6, 13, 0)] [] (q := 65) (L' := [some (.ref p0), some (.int p1), some (.int p2)]) (st' := [.int (gi w16 p0 13)]) (v1 := w16) (by decide +kernel) rfl ⟨h14, trivial⟩ ?_
      refine sc_ri (pc3 := 68) (cf_S (idx := 145) [.int (gi w16 p0 13)] m_gm_digitsOf ⟨by decide, by decide⟩ (List.mem_of_getElem? (i := 2029) (by decide +kernel)) rfl (Nat.le_of_ble_eq_true rfl) (by decide +kernel) (Nat.le_of_ble_eq_true rfl) rfl) (ok_gm_digitsOf N (gi w16 p0 13) S w16) rfl (fun x19 => ?_)
      refine sim_seg [(.iload_n 1, 0, 0, 0)] [] (q := 69) (L' := [some (.ref p0), some (.int p1), some (.int p2)]) (st' := [.int p1, .int x19]) (v1 := w16) (by decide +kernel) rfl trivial ?_
      refine sim_lt' (o := 9) (tg := 78) (f := 72) (by decide +kernel) rfl rfl (fun _ => ?_) (fun _ => ?_)
      · refine sim_seg [(.iinc 2 1, 0, 0, 1)] [] (q := 81) (L' := [some (.ref p0), some (.int p1), some (.int (p2 + (J 1)))]) (st' := []) (v1 := w16) (by decide +kernel) rfl trivial ?_
        refine sim_seg [(.goto (-42), 0, 0, 0)] [] (q := 39) (L' := [some (.ref p0), some (.int p1), some (.int (p2 + (J 1)))]) (st' := []) (v1 := w16) (by decide +kernel) rfl trivial ?_
        exact j39 w16 p0 p1 (p2 + (J 1))
      · refine sim_seg [(.aload_n 0, 0, 0, 0), (.iload_n 2, 0, 0, 0)] [] (q := 74) (L' := [some (.ref p0), some (.int p1), some (.int p2)]) (st' := [.int p2, .ref p0]) (v1 := w16) (by decide +kernel) rfl trivial ?_
        refine sc_pi (pc3 := 77) (cf_V (idx := 301) (ci := 6) [.int p2] m_gm_back (by decide) ⟨by decide, by decide⟩ (List.mem_of_getElem? (i := 1919) (by decide +kernel)) rfl (Nat.le_of_ble_eq_true rfl) h14 (by decide +kernel) (Nat.le_of_ble_eq_true rfl) rfl) (ok_gm_back N p0 p2 S w16) rfl (fun x20 w21 => ?_)
        exact sim_iret (by decide +kernel) rfl rfl rfl
theorem sR_gm_periodsFor_39 (N : Nat)  (S : shp)  (n : Nat) : ∀ (v : vl) (p0 : Nat) (p1 : Int32) (p2 : Int32), SimK B_gm_periodsFor 39 [some (.ref p0), some (.int p1), some (.int p2)] [] S v (K_gm_periodsFor_39 N  n S v p0 p1 p2) (ρpi S) := by
  induction n with
  | zero => intro v p0 p1 p2; exact sim_none
  | succ k ih => intro v p0 p1 p2; exact sY_gm_periodsFor_39 N   _ S  ih v p0 p1 p2
theorem sK_gm_periodsFor_39 (N : Nat)  (n : Nat) (S : shp) (v : vl) (p0 : Nat) (p1 : Int32) (p2 : Int32) : SimK B_gm_periodsFor 39 [some (.ref p0), some (.int p1), some (.int p2)] [] S v (K_gm_periodsFor_39 N  n S v p0 p1 p2) (ρpi S) := sR_gm_periodsFor_39 N   S  n  v p0 p1 p2
noncomputable def F_gm_periodsFor (N : Nat) (a0 : Nat) (b1 : Int32) (S : shp) (v : vl) : Option (Int32 × vl) :=
  grd (kin S a0 = some (0, 6)) <| lt (si v a0 10 (J 0)) fun w2 => (F_gm_noDigits a0 b1 S w2).bind fun (x3, w4) => (if x3 = (J 0) then (F_gm_thinks N a0 S w4).bind fun w5 => (F_gm_waitsFor N a0 (J 4) S w5).bind fun (x6, w7) => (if x6 = (J 0) then (F_gm_back N a0 (J (-1)) S w7).bind fun (x8, w9) => some ((x8, w9)) else (F_gm_beginsNow a0 S w7).bind fun w10 => K_gm_periodsFor_39 N  N S w10 a0 b1 (J 1)) else some (((J 0), w4)))
theorem ok_gm_periodsFor (N : Nat) (a0 : Nat) (b1 : Int32) (S : shp) (v : vl) : SimK B_gm_periodsFor 0 (entB (bN B_gm_periodsFor) [.ref a0, .int b1]) [] S v (F_gm_periodsFor N a0 b1 S v) (ρpi S) := by
  show SimK B_gm_periodsFor 0 [some (.ref a0), some (.int b1), none] [] S v (F_gm_periodsFor N a0 b1 S v) _
  unfold F_gm_periodsFor
  refine sim_grd fun h1 => ?_
  refine sim_seg [(.aload_n 0, 0, 0, 0), (.iconst 0, 0, 0, 0), (.putfield 38, 6, 10, 0), (.aload_n 0, 0, 0, 0), (.iload_n 1, 0, 0, 0)] [] (q := 7) (L' := [some (.ref a0), some (.int b1), none]) (st' := [.int b1, .ref a0]) (v1 := (si v a0 10 (J 0))) (by decide +kernel) rfl ⟨h1, trivial⟩ ?_
  refine sim_lt (x := (si v a0 10 (J 0))) ?_
  generalize (si v a0 10 (J 0)) = w2
  refine sc_pi (pc3 := 10) (cf_V (idx := 328) (ci := 6) [.int b1] m_gm_noDigits (by decide) ⟨by decide, by decide⟩ (List.mem_of_getElem? (i := 2053) (by decide +kernel)) rfl (Nat.le_of_ble_eq_true rfl) h1 (by decide +kernel) (Nat.le_of_ble_eq_true rfl) rfl) (ok_gm_noDigits a0 b1 S w2) rfl (fun x3 w4 => ?_)
  refine sim_eq0 (o := 5) (tg := 15) (f := 13) (by decide +kernel) rfl rfl (fun _ => ?_) (fun _ => ?_)
  · refine sim_seg [(.aload_n 0, 0, 0, 0)] [] (q := 16) (L' := [some (.ref a0), some (.int b1), none]) (st' := [.ref a0]) (v1 := w4) (by decide +kernel) rfl trivial ?_
    refine sc_pv (pc3 := 19) (cf_V (idx := 295) (ci := 6) [] m_gm_thinks (by decide) ⟨by decide, by decide⟩ (List.mem_of_getElem? (i := 1884) (by decide +kernel)) rfl (Nat.le_of_ble_eq_true rfl) h1 (by decide +kernel) (Nat.le_of_ble_eq_true rfl) rfl) (ok_gm_thinks N a0 S w4) rfl (fun w5 => ?_)
    refine sim_seg [(.aload_n 0, 0, 0, 0), (.iconst 4, 0, 0, 4)] [] (q := 21) (L' := [some (.ref a0), some (.int b1), none]) (st' := [.int (J 4), .ref a0]) (v1 := w5) (by decide +kernel) rfl trivial ?_
    refine sc_pi (pc3 := 24) (cf_V (idx := 108) (ci := 6) [.int (J 4)] m_gm_waitsFor (by decide) ⟨by decide, by decide⟩ (List.mem_of_getElem? (i := 1939) (by decide +kernel)) rfl (Nat.le_of_ble_eq_true rfl) h1 (by decide +kernel) (Nat.le_of_ble_eq_true rfl) rfl) (ok_gm_waitsFor N a0 (J 4) S w5) rfl (fun x6 w7 => ?_)
    refine sim_ne0 (o := 9) (tg := 33) (f := 27) (by decide +kernel) rfl rfl (fun _ => ?_) (fun _ => ?_)
    · refine sim_seg [(.aload_n 0, 0, 0, 0), (.iconst (-1), 0, 0, (-1))] [] (q := 29) (L' := [some (.ref a0), some (.int b1), none]) (st' := [.int (J (-1)), .ref a0]) (v1 := w7) (by decide +kernel) rfl trivial ?_
      refine sc_pi (pc3 := 32) (cf_V (idx := 301) (ci := 6) [.int (J (-1))] m_gm_back (by decide) ⟨by decide, by decide⟩ (List.mem_of_getElem? (i := 1919) (by decide +kernel)) rfl (Nat.le_of_ble_eq_true rfl) h1 (by decide +kernel) (Nat.le_of_ble_eq_true rfl) rfl) (ok_gm_back N a0 (J (-1)) S w7) rfl (fun x8 w9 => ?_)
      exact sim_iret (by decide +kernel) rfl rfl rfl
    · refine sim_seg [(.aload_n 0, 0, 0, 0)] [] (q := 34) (L' := [some (.ref a0), some (.int b1), none]) (st' := [.ref a0]) (v1 := w7) (by decide +kernel) rfl trivial ?_
      refine sc_pv (pc3 := 37) (cf_V (idx := 111) (ci := 6) [] m_gm_beginsNow (by decide) ⟨by decide, by decide⟩ (List.mem_of_getElem? (i := 1996) (by decide +kernel)) rfl (Nat.le_of_ble_eq_true rfl) h1 (by decide +kernel) (Nat.le_of_ble_eq_true rfl) rfl) (ok_gm_beginsNow a0 S w7) rfl (fun w10 => ?_)
      refine sim_seg [(.iconst 1, 0, 0, 1), (.istore_n 2, 0, 0, 0)] [] (q := 39) (L' := [some (.ref a0), some (.int b1), some (.int (J 1))]) (st' := []) (v1 := w10) (by decide +kernel) rfl trivial ?_
      exact sK_gm_periodsFor_39 N N S w10 a0 b1 (J 1)
  · refine sim_seg [(.iconst 0, 0, 0, 0)] [] (q := 14) (L' := [some (.ref a0), some (.int b1), none]) (st' := [.int (J 0)]) (v1 := w4) (by decide +kernel) rfl trivial ?_
    exact sim_iret (by decide +kernel) rfl rfl rfl
