/-! Methods: gm_longestGate, gm_mostPeriods, gm_gateNear, gm_outputsBy, gm_bestPrescale, gm_correctionFor, gm_valueWith, gm_meanValue, gm_aheadOf, gm_median, gm_tickShare, gm_spread. -/
def B_gm_longestGate : bd := (⟨"GateCounterModel", "longestGate", "()I"⟩, prog_8_method_94_code, 3, (some .int), [], 6, 5)
theorem m_gm_longestGate : mV B_gm_longestGate 6 0 := ⟨⟨⟨by decide +kernel, Or.inl rfl⟩, rfl, (List.mem_of_getElem? (i := 2064) (by decide +kernel)), by decide +kernel, (List.mem_of_getElem? (i := 104) (by decide +kernel)), ⟨by decide, by decide⟩, by decide⟩, rfl, (by unfold nar; decide +kernel), (List.mem_of_getElem? (i := 2062) (by decide +kernel)), rfl, (List.mem_of_getElem? (i := 2063) (by decide +kernel))⟩
noncomputable def Y_gm_longestGate_21 (N : Nat)  (i21 : vl → Nat → Int32 → Int32 → Option (Int32 × vl)) (S : shp) (v : vl) (p0 : Nat) (p1 : Int32) (p2 : Int32) : Option (Int32 × vl) :=
  (if p2 = (J 0) then (if p1 = (J 0) then grd (kin S p0 = some (0, 6)) <| (F_gm_back N p0 (J (-1)) S v).bind fun (x8, w9) => some ((x8, w9)) else grd (kin S p0 = some (0, 6)) <| (F_gm_back N p0 p1 S v).bind fun (x11, w12) => some ((x11, w12))) else (if p1 < (J 9999) then grd (kin S p0 = some (0, 6)) <| (F_gm_countsTo N p0 (J 2) (J 4) S v).bind fun (x14, w15) => (if x14 = (J 0) then i21 w15 p0 (p1 + (J 0)) x14 else i21 w15 p0 (p1 + (J 1)) x14) else (if p1 = (J 0) then grd (kin S p0 = some (0, 6)) <| (F_gm_back N p0 (J (-1)) S v).bind fun (x17, w18) => some ((x17, w18)) else grd (kin S p0 = some (0, 6)) <| (F_gm_back N p0 p1 S v).bind fun (x20, w21) => some ((x20, w21)))))
noncomputable def K_gm_longestGate_21 (N : Nat)  (n : Nat) (S : shp) : vl → Nat → Int32 → Int32 → Option (Int32 × vl) :=
  Nat.rec (motive := fun _ => vl → Nat → Int32 → Int32 → Option (Int32 × vl)) (fun _ _ _ _ => none) (fun _ i => Y_gm_longestGate_21 N  i S) n
theorem sY_gm_longestGate_21 (N : Nat)  (i21 : vl → Nat → Int32 → Int32 → Option (Int32 × vl)) (S : shp)  (j21 : ∀ (v : vl) (p0 : Nat) (p1 : Int32) (p2 : Int32), SimK B_gm_longestGate 21 [some (.ref p0), some (.int p1), some (.int p2)] [] S v (i21 v p0 p1 p2) (ρpi S)) (v : vl) (p0 : Nat) (p1 : Int32) (p2 : Int32) : SimK B_gm_longestGate 21 [some (.ref p0), some (.int p1), some (.int p2)] [] S v (Y_gm_longestGate_21 N  i21 S v p0 p1 p2) (ρpi S) := by
  unfold Y_gm_longestGate_21
  refine sim_seg [(.iload_n 2, 0, 0, 0)] [] (q := 22) (L' := [some (.ref p0), some (.int p1), some (.int p2)]) (st' := [.int p2]) (v1 := v) (by decide +kernel) rfl trivial ?_
  refine sim_eq0 (o := 32) (tg := 54) (f := 25) (by decide +kernel) rfl rfl (fun _ => ?_) (fun _ => ?_)
  · refine sim_seg [(.aload_n 0, 0, 0, 0), (.iload_n 1, 0, 0, 0)] [] (q := 56) (L' := [some (.ref p0), some (.int p1), some (.int p2)]) (st' := [.int p1, .ref p0]) (v1 := v) (by decide +kernel) rfl trivial ?_
    refine sim_ne0 (o := 7) (tg := 63) (f := 59) (by decide +kernel) rfl rfl (fun _ => ?_) (fun _ => ?_)
    · refine sim_seg [(.iconst (-1), 0, 0, (-1)), (.goto 4, 0, 0, 0)] [] (q := 64) (L' := [some (.ref p0), some (.int p1), some (.int p2)]) (st' := [.int (J (-1)), .ref p0]) (v1 := v) (by decide +kernel) rfl trivial ?_
      refine sim_grd fun h7 => ?_
      refine sc_pi (pc3 := 67) (cf_V (idx := 301) (ci := 6) [.int (J (-1))] m_gm_back (by decide) ⟨by decide, by decide⟩ (List.mem_of_getElem? (i := 1919) (by decide +kernel)) rfl (Nat.le_of_ble_eq_true rfl) h7 (by decide +kernel) (Nat.le_of_ble_eq_true rfl) rfl) (ok_gm_back N p0 (J (-1)) S v) rfl (fun x8 w9 => ?_)
      exact sim_iret (by decide +kernel) rfl rfl rfl
    · refine sim_seg [(.iload_n 1, 0, 0, 0)] [] (q := 64) (L' := [some (.ref p0), some (.int p1), some (.int p2)]) (st' := [.int p1, .ref p0]) (v1 := v) (by decide +kernel) rfl trivial ?_
      refine sim_grd fun h10 => ?_
      refine sc_pi (pc3 := 67) (cf_V (idx := 301) (ci := 6) [.int p1] m_gm_back (by decide) ⟨by decide, by decide⟩ (List.mem_of_getElem? (i := 1919) (by decide +kernel)) rfl (Nat.le_of_ble_eq_true rfl) h10 (by decide +kernel) (Nat.le_of_ble_eq_true rfl) rfl) (ok_gm_back N p0 p1 S v) rfl (fun x11 w12 => ?_)
      exact sim_iret (by decide +kernel) rfl rfl rfl
  · refine sim_seg [(.iload_n 1, 0, 0, 0), (.sipush 9999, 0, 0, 9999)] [] (q := 29) (L' := [some (.ref p0), some (.int p1), some (.int p2)]) (st' := [.int (J 9999), .int p1]) (v1 := v) (by decide +kernel) rfl trivial ?_
    refine sim_ge (o := 25) (tg := 54) (f := 32) (by decide +kernel) rfl rfl (fun _ => ?_) (fun _ => ?_)
    · refine sim_seg [(.aload_n 0, 0, 0, 0), (.iconst 2, 0, 0, 2), (.iconst 4, 0, 0, 4)] [] (q := 35) (L' := [some (.ref p0), some (.int p1), some (.int p2)]) (st' := [.int (J 4), .int (J 2), .ref p0]) (v1 := v) (by decide +kernel) rfl trivial ?_
      refine sim_grd fun h13 => ?_
      refine sc_pi (pc3 := 38) (cf_V (idx := 114) (ci := 6) [.int (J 2), .int (J 4)] m_gm_countsTo (by decide) ⟨by decide, by decide⟩ (List.mem_of_getElem? (i := 2000) (by decide +kernel)) rfl (Nat.le_of_ble_eq_true rfl) h13 (by decide +kernel) (Nat.le_of_ble_eq_true rfl) rfl) (ok_gm_countsTo N p0 (J 2) (J 4) S v) rfl (fun x14 w15 => ?_)
      refine sim_seg [(.istore_n 2, 0, 0, 0)] [] (q := 39) (L' := [some (.ref p0), some (.int p1), some (.int x14)]) (st' := []) (v1 := w15) (by decide +kernel) rfl trivial ?_
      refine sim_seg [(.iload_n 1, 0, 0, 0), (.iload_n 2, 0, 0, 0)] [] (q := 41) (L' := [some (.ref p0), some (.int p1), some (.int x14)]) (st' := [.int x14, .int p1]) (v1 := w15) (by decide +kernel) rfl trivial ?_
      refine sim_eq0 (o := 7) (tg := 48) (f := 44) (by decide +kernel) rfl rfl (fun _ => ?_) (fun _ => ?_)
      · refine sim_seg [(.iconst 0, 0, 0, 0), (.iadd, 0, 0, 0), (.istore_n 1, 0, 0, 0)] [] (q := 51) (L' := [some (.ref p0), some (.int (p1 + (J 0))), some (.int x14)]) (st' := []) (v1 := w15) (by decide +kernel) rfl trivial ?_
        refine sim_seg [(.goto (-30), 0, 0, 0)] [] (q := 21) (L' := [some (.ref p0), some (.int (p1 + (J 0))), some (.int x14)]) (st' := []) (v1 := w15) (by decide +kernel) rfl trivial ?_
        exact j21 w15 p0 (p1 + (J 0)) x14
      · refine sim_seg [(.iconst 1, 0, 0, 1), (.goto 4, 0, 0, 0), (.iadd, 0, 0, 0), (.istore_n 1, 0, 0, 0)] [] (q := 51) (L' := [some (.ref p0), some (.int (p1 + (J 1))), some (.int x14)]) (st' := []) (v1 := w15) (by decide +kernel) rfl trivial ?_
        refine sim_seg [(.goto (-30), 0, 0, 0)] [] (q := 21) (L' := [some (.ref p0), some (.int (p1 + (J 1))), some (.int x14)]) (st' := []) (v1 := w15) (by decide +kernel) rfl trivial ?_
        exact j21 w15 p0 (p1 + (J 1)) x14
    · refine sim_seg [(.aload_n 0, 0, 0, 0), (.iload_n 1, 0, 0, 0)] [] (q := 56) (L' := [some (.ref p0), some (.int p1), some (.int p2)]) (st' := [.int p1, .ref p0]) (v1 := v) (by decide +kernel) rfl trivial ?_
      refine sim_ne0 (o := 7) (tg := 63) (f := 59) (by decide +kernel) rfl rfl (fun _ => ?_) (fun _ => ?_)
      · refine sim_seg [(.iconst (-1), 0, 0, (-1)), (.goto 4, 0, 0, 0)] [] (q := 64) (L' := [some (.ref p0), some (.int p1), some (.int p2)]) (st' := [.int (J (-1)), .ref p0]) (v1 := v) (by decide +kernel) rfl trivial ?_
        refine sim_grd fun h16 => ?_
        refine sc_pi (pc3 := 67) (cf_V (idx := 301) (ci := 6) [.int (J (-1))] m_gm_back (by decide) ⟨by decide, by decide⟩ (List.mem_of_getElem? (i := 1919) (by decide +kernel)) rfl (Nat.le_of_ble_eq_true rfl) h16 (by decide +kernel) (Nat.le_of_ble_eq_true rfl) rfl) (ok_gm_back N p0 (J (-1)) S v) rfl (fun x17 w18 => ?_)
        exact sim_iret (by decide +kernel) rfl rfl rfl
      · refine sim_seg [(.iload_n 1, 0, 0, 0)] [] (q := 64) (L' := [some (.ref p0), some (.int p1), some (.int p2)]) (st' := [.int p1, .ref p0]) (v1 := v) (by decide +kernel) rfl trivial ?_
        refine sim_grd fun h19 => ?_
        refine sc_pi (pc3 := 67) (cf_V (idx := 301) (ci := 6) [.int p1] m_gm_back (by decide) ⟨by decide, by decide⟩ (List.mem_of_getElem? (i := 1919) (by decide +kernel)) rfl (Nat.le_of_ble_eq_true rfl) h19 (by decide +kernel) (Nat.le_of_ble_eq_true rfl) rfl) (ok_gm_back N p0 p1 S v) rfl (fun x20 w21 => ?_)
        exact sim_iret (by decide +kernel) rfl rfl rfl
theorem sR_gm_longestGate_21 (N : Nat)  (S : shp)  (n : Nat) : ∀ (v : vl) (p0 : Nat) (p1 : Int32) (p2 : Int32), SimK B_gm_longestGate 21 [some (.ref p0), some (.int p1), some (.int p2)] [] S v (K_gm_longestGate_21 N  n S v p0 p1 p2) (ρpi S) := by
  induction n with
  | zero => intro v p0 p1 p2; exact sim_none
  | succ k ih => intro v p0 p1 p2; exact sY_gm_longestGate_21 N   _ S  ih v p0 p1 p2
theorem sK_gm_longestGate_21 (N : Nat)  (n : Nat) (S : shp) (v : vl) (p0 : Nat) (p1 : Int32) (p2 : Int32) : SimK B_gm_longestGate 21 [some (.ref p0), some (.int p1), some (.int p2)] [] S v (K_gm_longestGate_21 N  n S v p0 p1 p2) (ρpi S) := sR_gm_longestGate_21 N   S  n  v p0 p1 p2
noncomputable def F_gm_longestGate (N : Nat) (a0 : Nat) (S : shp) (v : vl) : Option (Int32 × vl) :=
  grd (kin S a0 = some (0, 6)) <| lt (si v a0 10 (J 0)) fun w2 => (F_gm_thinks N a0 S w2).bind fun w3 => (F_gm_waitsFor N a0 (J 2) S w3).bind fun (x4, w5) => (F_gm_beginsNow a0 S w5).bind fun w6 => K_gm_longestGate_21 N  N S w6 a0 (J 0) x4
theorem ok_gm_longestGate (N : Nat) (a0 : Nat) (S : shp) (v : vl) : SimK B_gm_longestGate 0 (entB (bN B_gm_longestGate) [.ref a0]) [] S v (F_gm_longestGate N a0 S v) (ρpi S) := by
  show SimK B_gm_longestGate 0 [some (.ref a0), none, none] [] S v (F_gm_longestGate N a0 S v) _
  unfold F_gm_longestGate
  refine sim_grd fun h1 => ?_
  refine sim_seg [(.aload_n 0, 0, 0, 0), (.iconst 0, 0, 0, 0), (.putfield 38, 6, 10, 0), (.aload_n 0, 0, 0, 0)] [] (q := 6) (L' := [some (.ref a0), none, none]) (st' := [.ref a0]) (v1 := (si v a0 10 (J 0))) (by decide +kernel) rfl ⟨h1, trivial⟩ ?_
  refine sim_lt (x := (si v a0 10 (J 0))) ?_
  generalize (si v a0 10 (J 0)) = w2
  refine sc_pv (pc3 := 9) (cf_V (idx := 295) (ci := 6) [] m_gm_thinks (by decide) ⟨by decide, by decide⟩ (List.mem_of_getElem? (i := 1884) (by decide +kernel)) rfl (Nat.le_of_ble_eq_true rfl) h1 (by decide +kernel) (Nat.le_of_ble_eq_true rfl) rfl) (ok_gm_thinks N a0 S w2) rfl (fun w3 => ?_)
  refine sim_seg [(.iconst 0, 0, 0, 0), (.istore_n 1, 0, 0, 0)] [] (q := 11) (L' := [some (.ref a0), some (.int (J 0)), none]) (st' := []) (v1 := w3) (by decide +kernel) rfl trivial ?_
  refine sim_seg [(.aload_n 0, 0, 0, 0), (.iconst 2, 0, 0, 2)] [] (q := 13) (L' := [some (.ref a0), some (.int (J 0)), none]) (st' := [.int (J 2), .ref a0]) (v1 := w3) (by decide +kernel) rfl trivial ?_
  refine sc_pi (pc3 := 16) (cf_V (idx := 108) (ci := 6) [.int (J 2)] m_gm_waitsFor (by decide) ⟨by decide, by decide⟩ (List.mem_of_getElem? (i := 1939) (by decide +kernel)) rfl (Nat.le_of_ble_eq_true rfl) h1 (by decide +kernel) (Nat.le_of_ble_eq_true rfl) rfl) (ok_gm_waitsFor N a0 (J 2) S w3) rfl (fun x4 w5 => ?_)
  refine sim_seg [(.istore_n 2, 0, 0, 0)] [] (q := 17) (L' := [some (.ref a0), some (.int (J 0)), some (.int x4)]) (st' := []) (v1 := w5) (by decide +kernel) rfl trivial ?_
  refine sim_seg [(.aload_n 0, 0, 0, 0)] [] (q := 18) (L' := [some (.ref a0), some (.int (J 0)), some (.int x4)]) (st' := [.ref a0]) (v1 := w5) (by decide +kernel) rfl trivial ?_
  refine sc_pv (pc3 := 21) (cf_V (idx := 111) (ci := 6) [] m_gm_beginsNow (by decide) ⟨by decide, by decide⟩ (List.mem_of_getElem? (i := 1996) (by decide +kernel)) rfl (Nat.le_of_ble_eq_true rfl) h1 (by decide +kernel) (Nat.le_of_ble_eq_true rfl) rfl) (ok_gm_beginsNow a0 S w5) rfl (fun w6 => ?_)
  exact sK_gm_longestGate_21 N N S w6 a0 (J 0) x4
def B_gm_mostPeriods : bd := (⟨"GateCounterModel", "mostPeriods", "()I"⟩, prog_8_method_95_code, 4, (some .int), [], 6, 5)
theorem m_gm_mostPeriods : mV B_gm_mostPeriods 6 0 := ⟨⟨⟨by decide +kernel, Or.inl rfl⟩, rfl, (List.mem_of_getElem? (i := 2068) (by decide +kernel)), by decide +kernel, (List.mem_of_getElem? (i := 104) (by decide +kernel)), ⟨by decide, by decide⟩, by decide⟩, rfl, (by unfold nar; decide +kernel), (List.mem_of_getElem? (i := 2066) (by decide +kernel)), rfl, (List.mem_of_getElem? (i := 2067) (by decide +kernel))⟩
noncomputable def Y_gm_mostPeriods_23 (N : Nat)  (i23 : vl → Nat → Int32 → Int32 → Int32 → Option (Int32 × vl)) (S : shp) (v : vl) (p0 : Nat) (p1 : Int32) (p2 : Int32) (p3 : Int32) : Option (Int32 × vl) :=
  (if p3 = (J 0) then (if p1 = (J 0) then grd (kin S p0 = some (0, 6)) <| (F_gm_back N p0 (J (-1)) S v).bind fun (x8, w9) => some ((x8, w9)) else grd (kin S p0 = some (0, 6)) <| (F_gm_back N p0 p1 S v).bind fun (x11, w12) => some ((x11, w12))) else (if p2 < (J 999) then grd (kin S p0 = some (0, 6)) <| (F_gm_countsTo N p0 (J 4) (J 2) S v).bind fun (x14, w15) => (if x14 = (J 0) then i23 w15 p0 p1 (p2 + (J 1)) x14 else (if (J 0) < (gi w15 p0 13) then i23 w15 p0 (p2 + (J 1)) (p2 + (J 1)) x14 else i23 w15 p0 p1 (p2 + (J 1)) x14)) else (if p1 = (J 0) then grd (kin S p0 = some (0, 6)) <| (F_gm_back N p0 (J (-1)) S v).bind fun (x17, w18) => some ((x17, w18)) else grd (kin S p0 = some (0, 6)) <| (F_gm_back N p0 p1 S v).bind fun (x20, w21) => some ((x20, w21)))))
noncomputable def K_gm_mostPeriods_23 (N : Nat)  (n : Nat) (S : shp) : vl → Nat → Int32 → Int32 → Int32 → Option (Int32 × vl) :=
  Nat.rec (motive := fun _ => vl → Nat → Int32 → Int32 → Int32 → Option (Int32 × vl)) (fun _ _ _ _ _ => none) (fun _ i => Y_gm_mostPeriods_23 N  i S) n
theorem sY_gm_mostPeriods_23 (N : Nat)  (i23 : vl → Nat → Int32 → Int32 → Int32 → Option (Int32 × vl)) (S : shp)  (j23 : ∀ (v : vl) (p0 : Nat) (p1 : Int32) (p2 : Int32) (p3 : Int32), SimK B_gm_mostPeriods 23 [some (.ref p0), some (.int p1), some (.int p2), some (.int p3)] [] S v (i23 v p0 p1 p2 p3) (ρpi S)) (v : vl) (p0 : Nat) (p1 : Int32) (p2 : Int32) (p3 : Int32) : SimK B_gm_mostPeriods 23 [some (.ref p0), some (.int p1), some (.int p2), some (.int p3)] [] S v (Y_gm_mostPeriods_23 N  i23 S v p0 p1 p2 p3) (ρpi S) := by
  unfold Y_gm_mostPeriods_23
  refine sim_seg [(.iload_n 3, 0, 0, 0)] [] (q := 24) (L' := [some (.ref p0), some (.int p1), some (.int p2), some (.int p3)]) (st' := [.int p3]) (v1 := v) (by decide +kernel) rfl trivial ?_
  refine sim_eq0 (o := 36) (tg := 60) (f := 27) (by decide +kernel) rfl rfl (fun _ => ?_) (fun _ => ?_)
  · refine sim_seg [(.aload_n 0, 0, 0, 0), (.iload_n 1, 0, 0, 0)] [] (q := 62) (L' := [some (.ref p0), some (.int p1), some (.int p2), some (.int p3)]) (st' := [.int p1, .ref p0]) (v1 := v) (by decide +kernel) rfl trivial ?_
    refine sim_ne0 (o := 7) (tg := 69) (f := 65) (by decide +kernel) rfl rfl (fun _ => ?_) (fun _ => ?_)
    · refine sim_seg [(.iconst (-1), 0, 0, (-1)), (.goto 4, 0, 0, 0)] [] (q := 70) (L' := [some (.ref p0), some (.int p1), some (.int p2), some (.int p3)]) (st' := [.int (J (-1)), .ref p0]) (v1 := v) (by decide +kernel) rfl trivial ?_
      refine sim_grd fun h7 => ?_
      refine sc_pi (pc3 := 73) (cf_V (idx := 301) (ci := 6) [.int (J (-1))] m_gm_back (by decide) ⟨by decide, by decide⟩ (List.mem_of_getElem? (i := 1919) (by decide +kernel)) rfl (Nat.le_of_ble_eq_true rfl) h7 (by decide +kernel) (Nat.le_of_ble_eq_true rfl) rfl) (ok_gm_back N p0 (J (-1)) S v) rfl (fun x8 w9 => ?_)
      exact sim_iret (by decide +kernel) rfl rfl rfl
    · refine sim_seg [(.iload_n 1, 0, 0, 0)] [] (q := 70) (L' := [some (.ref p0), some (.int p1), some (.int p2), some (.int p3)]) (st' := [.int p1, .ref p0]) (v1 := v) (by decide +kernel) rfl trivial ?_
      refine sim_grd fun h10 => ?_
      refine sc_pi (pc3 := 73) (cf_V (idx := 301) (ci := 6) [.int p1] m_gm_back (by decide) ⟨by decide, by decide⟩ (List.mem_of_getElem? (i := 1919) (by decide +kernel)) rfl (Nat.le_of_ble_eq_true rfl) h10 (by decide +kernel) (Nat.le_of_ble_eq_true rfl) rfl) (ok_gm_back N p0 p1 S v) rfl (fun x11 w12 => ?_)
      exact sim_iret (by decide +kernel) rfl rfl rfl
  · refine sim_seg [(.iload_n 2, 0, 0, 0), (.sipush 999, 0, 0, 999)] [] (q := 31) (L' := [some (.ref p0), some (.int p1), some (.int p2), some (.int p3)]) (st' := [.int (J 999), .int p2]) (v1 := v) (by decide +kernel) rfl trivial ?_
    refine sim_ge (o := 29) (tg := 60) (f := 34) (by decide +kernel) rfl rfl (fun _ => ?_) (fun _ => ?_)
    · refine sim_seg [(.aload_n 0, 0, 0, 0), (.iconst 4, 0, 0, 4), (.iconst 2, 0, 0, 2)] [] (q := 37) (L' := [some (.ref p0), some (.int p1), some (.int p2), some (.int p3)]) (st' := [.int (J 2), .int (J 4), .ref p0]) (v1 := v) (by decide +kernel) rfl trivial ?_
      refine sim_grd fun h13 => ?_
      refine sc_pi (pc3 := 40) (cf_V (idx := 114) (ci := 6) [.int (J 4), .int (J 2)] m_gm_countsTo (by decide) ⟨by decide, by decide⟩ (List.mem_of_getElem? (i := 2000) (by decide +kernel)) rfl (Nat.le_of_ble_eq_true rfl) h13 (by decide +kernel) (Nat.le_of_ble_eq_true rfl) rfl) (ok_gm_countsTo N p0 (J 4) (J 2) S v) rfl (fun x14 w15 => ?_)
      refine sim_seg [(.istore_n 3, 0, 0, 0)] [] (q := 41) (L' := [some (.ref p0), some (.int p1), some (.int p2), some (.int x14)]) (st' := []) (v1 := w15) (by decide +kernel) rfl trivial ?_
      refine sim_seg [(.iinc 2 1, 0, 0, 1)] [] (q := 44) (L' := [some (.ref p0), some (.int p1), some (.int (p2 + (J 1))), some (.int x14)]) (st' := []) (v1 := w15) (by decide +kernel) rfl trivial ?_
      refine sim_seg [(.iload_n 3, 0, 0, 0)] [] (q := 45) (L' := [some (.ref p0), some (.int p1), some (.int (p2 + (J 1))), some (.int x14)]) (st' := [.int x14]) (v1 := w15) (by decide +kernel) rfl trivial ?_
      refine sim_eq0 (o := -22) (tg := 23) (f := 48) (by decide +kernel) rfl rfl (fun _ => ?_) (fun _ => ?_)
      · exact j23 w15 p0 p1 (p2 + (J 1)) x14
      · refine sim_seg [(.aload_n 0, 0, 0, 0), (.getfield 96, 6, 13, 0)] [] (q := 52) (L' := [some (.ref p0), some (.int p1), some (.int (p2 + (J 1))), some (.int x14)]) (st' := [.int (gi w15 p0 13)]) (v1 := w15) (by decide +kernel) rfl ⟨h13, trivial⟩ ?_
        refine sim_le0 (o := -29) (tg := 23) (f := 55) (by decide +kernel) rfl rfl (fun _ => ?_) (fun _ => ?_)
        · refine sim_seg [(.iload_n 2, 0, 0, 0), (.istore_n 1, 0, 0, 0)] [] (q := 57) (L' := [some (.ref p0), some (.int (p2 + (J 1))), some (.int (p2 + (J 1))), some (.int x14)]) (st' := []) (v1 := w15) (by decide +kernel) rfl trivial ?_
          refine sim_seg [(.goto (-34), 0, 0, 0)] [] (q := 23) (L' := [some (.ref p0), some (.int (p2 + (J 1))), some (.int (p2 + (J 1))), some (.int x14)]) (st' := []) (v1 := w15) (by decide +kernel) rfl trivial ?_
          exact j23 w15 p0 (p2 + (J 1)) (p2 + (J 1)) x14
        · exact j23 w15 p0 p1 (p2 + (J 1)) x14
    · refine sim_seg [(.aload_n 0, 0, 0, 0), (.iload_n 1, 0, 0, 0)] [] (q := 62) (L' := [some (.ref p0), some (.int p1), some (.int p2), some (.int p3)]) (st' := [.int p1, .ref p0]) (v1 := v) (by decide +kernel) rfl trivial ?_
      refine sim_ne0 (o := 7) (tg := 69) (f := 65) (by decide +kernel) rfl rfl (fun _ => ?_) (fun _ => ?_)
      · refine sim_seg [(.iconst (-1), 0, 0, (-1)), (.goto 4, 0, 0, 0)] [] (q := 70) (L' := [some (.ref p0), some (.int p1), some (.int p2), some (.int p3)]) (st' := [.int (J (-1)), .ref p0]) (v1 := v) (by decide +kernel) rfl trivial ?_
        refine sim_grd fun h16 => ?_
        refine sc_pi (pc3 := 73) (cf_V (idx := 301) (ci := 6) [.int (J (-1))] m_gm_back (by decide) ⟨by decide, by decide⟩ (List.mem_of_getElem? (i := 1919) (by decide +kernel)) rfl (Nat.le_of_ble_eq_true rfl) h16 (by decide +kernel) (Nat.le_of_ble_eq_true rfl) rfl) (ok_gm_back N p0 (J (-1)) S v) rfl (fun x17 w18 => ?_)
        exact sim_iret (by decide +kernel) rfl rfl rfl
      · refine sim_seg [(.iload_n 1, 0, 0, 0)] [] (q := 70) (L' := [some (.ref p0), some (.int p1), some (.int p2), some (.int p3)]) (st' := [.int p1, .ref p0]) (v1 := v) (by decide +kernel) rfl trivial ?_
        refine sim_grd fun h19 => ?_
        refine sc_pi (pc3 := 73) (cf_V (idx := 301) (ci := 6) [.int p1] m_gm_back (by decide) ⟨by decide, by decide⟩ (List.mem_of_getElem? (i := 1919) (by decide +kernel)) rfl (Nat.le_of_ble_eq_true rfl) h19 (by decide +kernel) (Nat.le_of_ble_eq_true rfl) rfl) (ok_gm_back N p0 p1 S v) rfl (fun x20 w21 => ?_)
        exact sim_iret (by decide +kernel) rfl rfl rfl
theorem sR_gm_mostPeriods_23 (N : Nat)  (S : shp)  (n : Nat) : ∀ (v : vl) (p0 : Nat) (p1 : Int32) (p2 : Int32) (p3 : Int32), SimK B_gm_mostPeriods 23 [some (.ref p0), some (.int p1), some (.int p2), some (.int p3)] [] S v (K_gm_mostPeriods_23 N  n S v p0 p1 p2 p3) (ρpi S) := by
  induction n with
  | zero => intro v p0 p1 p2 p3; exact sim_none
  | succ k ih => intro v p0 p1 p2 p3; exact sY_gm_mostPeriods_23 N   _ S  ih v p0 p1 p2 p3
theorem sK_gm_mostPeriods_23 (N : Nat)  (n : Nat) (S : shp) (v : vl) (p0 : Nat) (p1 : Int32) (p2 : Int32) (p3 : Int32) : SimK B_gm_mostPeriods 23 [some (.ref p0), some (.int p1), some (.int p2), some (.int p3)] [] S v (K_gm_mostPeriods_23 N  n S v p0 p1 p2 p3) (ρpi S) := sR_gm_mostPeriods_23 N   S  n  v p0 p1 p2 p3
noncomputable def F_gm_mostPeriods (N : Nat) (a0 : Nat) (S : shp) (v : vl) : Option (Int32 × vl) :=
  grd (kin S a0 = some (0, 6)) <| lt (si v a0 10 (J 0)) fun w2 => (F_gm_thinks N a0 S w2).bind fun w3 => (F_gm_waitsFor N a0 (J 4) S w3).bind fun (x4, w5) => (F_gm_beginsNow a0 S w5).bind fun w6 => K_gm_mostPeriods_23 N  N S w6 a0 (J 0) (J 0) x4
theorem ok_gm_mostPeriods (N : Nat) (a0 : Nat) (S : shp) (v : vl) : SimK B_gm_mostPeriods 0 (entB (bN B_gm_mostPeriods) [.ref a0]) [] S v (F_gm_mostPeriods N a0 S v) (ρpi S) := by
  show SimK B_gm_mostPeriods 0 [some (.ref a0), none, none, none] [] S v (F_gm_mostPeriods N a0 S v) _
  unfold F_gm_mostPeriods
  refine sim_grd fun h1 => ?_
  refine sim_seg [(.aload_n 0, 0, 0, 0), (.iconst 0, 0, 0, 0), (.putfield 38, 6, 10, 0), (.aload_n 0, 0, 0, 0)] [] (q := 6) (L' := [some (.ref a0), none, none, none]) (st' := [.ref a0]) (v1 := (si v a0 10 (J 0))) (by decide +kernel) rfl ⟨h1, trivial⟩ ?_
  refine sim_lt (x := (si v a0 10 (J 0))) ?_
  generalize (si v a0 10 (J 0)) = w2
  refine sc_pv (pc3 := 9) (cf_V (idx := 295) (ci := 6) [] m_gm_thinks (by decide) ⟨by decide, by decide⟩ (List.mem_of_getElem? (i := 1884) (by decide +kernel)) rfl (Nat.le_of_ble_eq_true rfl) h1 (by decide +kernel) (Nat.le_of_ble_eq_true rfl) rfl) (ok_gm_thinks N a0 S w2) rfl (fun w3 => ?_)
  refine sim_seg [(.iconst 0, 0, 0, 0), (.istore_n 1, 0, 0, 0)] [] (q := 11) (L' := [some (.ref a0), some (.int (J 0)), none, none]) (st' := []) (v1 := w3) (by decide +kernel) rfl trivial ?_
  refine sim_seg [(.iconst 0, 0, 0, 0), (.istore_n 2, 0, 0, 0)] [] (q := 13) (L' := [some (.ref a0), some (.int (J 0)), some (.int (J 0)), none]) (st' := []) (v1 := w3) (by decide +kernel) rfl trivial ?_
  refine sim_seg [(.aload_n 0, 0, 0, 0), (.iconst 4, 0, 0, 4)] [] (q := 15) (L' := [some (.ref a0), some (.int (J 0)), some (.int (J 0)), none]) (st' := [.int (J 4), .ref a0]) (v1 := w3) (by decide +kernel) rfl trivial ?_
  refine sc_pi (pc3 := 18) (cf_V (idx := 108) (ci := 6) [.int (J 4)] m_gm_waitsFor (by decide) ⟨by decide, by decide⟩ (List.mem_of_getElem? (i := 1939) (by decide +kernel)) rfl (Nat.le_of_ble_eq_true rfl) h1 (by decide +kernel) (Nat.le_of_ble_eq_true rfl) rfl) (ok_gm_waitsFor N a0 (J 4) S w3) rfl (fun x4 w5 => ?_)
  refine sim_seg [(.istore_n 3, 0, 0, 0)] [] (q := 19) (L' := [some (.ref a0), some (.int (J 0)), some (.int (J 0)), some (.int x4)]) (st' := []) (v1 := w5) (by decide +kernel) rfl trivial ?_
  refine sim_seg [(.aload_n 0, 0, 0, 0)] [] (q := 20) (L' := [some (.ref a0), some (.int (J 0)), some (.int (J 0)), some (.int x4)]) (st' := [.ref a0]) (v1 := w5) (by decide +kernel) rfl trivial ?_
  refine sc_pv (pc3 := 23) (cf_V (idx := 111) (ci := 6) [] m_gm_beginsNow (by decide) ⟨by decide, by decide⟩ (List.mem_of_getElem? (i := 1996) (by decide +kernel)) rfl (Nat.le_of_ble_eq_true rfl) h1 (by decide +kernel) (Nat.le_of_ble_eq_true rfl) rfl) (ok_gm_beginsNow a0 S w5) rfl (fun w6 => ?_)
  exact sK_gm_mostPeriods_23 N N S w6 a0 (J 0) (J 0) x4
def B_gm_gateNear : bd := (⟨"GateCounterModel", "gateNear", "(I)I"⟩, prog_8_method_96_code, 4, (some .int), [], 6, 8)
theorem m_gm_gateNear : mV B_gm_gateNear 6 1 := ⟨⟨⟨by decide +kernel, Or.inl rfl⟩, rfl, (List.mem_of_getElem? (i := 2072) (by decide +kernel)), by decide +kernel, (List.mem_of_getElem? (i := 104) (by decide +kernel)), ⟨by decide, by decide⟩, by decide⟩, rfl, (by unfold nar; decide +kernel), (List.mem_of_getElem? (i := 2070) (by decide +kernel)), rfl, (List.mem_of_getElem? (i := 2071) (by decide +kernel))⟩
noncomputable def Y_gm_gateNear_68 (N : Nat)  (i68 : vl → Nat → Int32 → Int32 → Int32 → Option (Int32 × vl)) (S : shp) (v : vl) (p0 : Nat) (p1 : Int32) (p2 : Int32) (p3 : Int32) : Option (Int32 × vl) :=
  (if (J 9999) < p3 then grd (kin S p0 = some (0, 6)) <| (F_gm_back N p0 (J (-1)) S v).bind fun (x17, w18) => some ((x17, w18)) else grd (kin S p0 = some (0, 6)) <| (F_gm_countsTo N p0 (J 2) (J 4) S v).bind fun (x20, w21) => (if x20 = (J 0) then (F_gm_back N p0 (J (-1)) S w21).bind fun (x22, w23) => some ((x22, w23)) else (gr S p0 0).bind fun r24 => grd (kin S r24 = some (1, 199)) <| (F_gm_gateValue p0 (gi w21 p0 13) p3 (gi w21 r24 7) S w21).bind fun x27 => (F_ma_abs (x27 - p2) S w21).bind fun x28 => (if p1 < x28 then i68 w21 p0 p1 p2 (p3 + (J 1)) else (F_gm_back N p0 p3 S w21).bind fun (x29, w30) => some ((x29, w30)))))
noncomputable def K_gm_gateNear_68 (N : Nat)  (n : Nat) (S : shp) : vl → Nat → Int32 → Int32 → Int32 → Option (Int32 × vl) :=
  Nat.rec (motive := fun _ => vl → Nat → Int32 → Int32 → Int32 → Option (Int32 × vl)) (fun _ _ _ _ _ => none) (fun _ i => Y_gm_gateNear_68 N  i S) n
theorem sY_gm_gateNear_68 (N : Nat)  (i68 : vl → Nat → Int32 → Int32 → Int32 → Option (Int32 × vl)) (S : shp)  (j68 : ∀ (v : vl) (p0 : Nat) (p1 : Int32) (p2 : Int32) (p3 : Int32), SimK B_gm_gateNear 68 [some (.ref p0), some (.int p1), some (.int p2), some (.int p3)] [] S v (i68 v p0 p1 p2 p3) (ρpi S)) (v : vl) (p0 : Nat) (p1 : Int32) (p2 : Int32) (p3 : Int32) : SimK B_gm_gateNear 68 [some (.ref p0), some (.int p1), some (.int p2), some (.int p3)] [] S v (Y_gm_gateNear_68 N  i68 S v p0 p1 p2 p3) (ρpi S) := by
  unfold Y_gm_gateNear_68
  refine sim_seg [(.iload_n 3, 0, 0, 0), (.sipush 9999, 0, 0, 9999)] [] (q := 72) (L' := [some (.ref p0), some (.int p1), some (.int p2), some (.int p3)]) (st' := [.int (J 9999), .int p3]) (v1 := v) (by decide +kernel) rfl trivial ?_
  refine sim_gt (o := 55) (tg := 127) (f := 75) (by decide +kernel) rfl rfl (fun _ => ?_) (fun _ => ?_)
  · refine sim_seg [(.aload_n 0, 0, 0, 0), (.iconst (-1), 0, 0, (-1))] [] (q := 129) (L' := [some (.ref p0), some (.int p1), some (.int p2), some (.int p3)]) (st' := [.int (J (-1)), .ref p0]) (v1 := v) (by decide +kernel) rfl trivial ?_
    refine sim_grd fun h16 => ?_
    refine sc_pi (pc3 := 132) (cf_V (idx := 301) (ci := 6) [.int (J (-1))] m_gm_back (by decide) ⟨by decide, by decide⟩ (List.mem_of_getElem? (i := 1919) (by decide +kernel)) rfl (Nat.le_of_ble_eq_true rfl) h16 (by decide +kernel) (Nat.le_of_ble_eq_true rfl) rfl) (ok_gm_back N p0 (J (-1)) S v) rfl (fun x17 w18 => ?_)
    exact sim_iret (by decide +kernel) rfl rfl rfl
  · refine sim_seg [(.aload_n 0, 0, 0, 0), (.iconst 2, 0, 0, 2), (.iconst 4, 0, 0, 4)] [] (q := 78) (L' := [some (.ref p0), some (.int p1), some (.int p2), some (.int p3)]) (st' := [.int (J 4), .int (J 2), .ref p0]) (v1 := v) (by decide +kernel) rfl trivial ?_
    refine sim_grd fun h19 => ?_
    refine sc_pi (pc3 := 81) (cf_V (idx := 114) (ci := 6) [.int (J 2), .int (J 4)] m_gm_countsTo (by decide) ⟨by decide, by decide⟩ (List.mem_of_getElem? (i := 2000) (by decide +kernel)) rfl (Nat.le_of_ble_eq_true rfl) h19 (by decide +kernel) (Nat.le_of_ble_eq_true rfl) rfl) (ok_gm_countsTo N p0 (J 2) (J 4) S v) rfl (fun x20 w21 => ?_)
    refine sim_ne0 (o := 9) (tg := 90) (f := 84) (by decide +kernel) rfl rfl (fun _ => ?_) (fun _ => ?_)
    · refine sim_seg [(.aload_n 0, 0, 0, 0), (.iconst (-1), 0, 0, (-1))] [] (q := 86) (L' := [some (.ref p0), some (.int p1), some (.int p2), some (.int p3)]) (st' := [.int (J (-1)), .ref p0]) (v1 := w21) (by decide +kernel) rfl trivial ?_
      refine sc_pi (pc3 := 89) (cf_V (idx := 301) (ci := 6) [.int (J (-1))] m_gm_back (by decide) ⟨by decide, by decide⟩ (List.mem_of_getElem? (i := 1919) (by decide +kernel)) rfl (Nat.le_of_ble_eq_true rfl) h19 (by decide +kernel) (Nat.le_of_ble_eq_true rfl) rfl) (ok_gm_back N p0 (J (-1)) S w21) rfl (fun x22 w23 => ?_)
      exact sim_iret (by decide +kernel) rfl rfl rfl
    · refine sim_bind fun r24 h25 => ?_
      refine sim_grd fun h26 => ?_
      refine sim_seg [(.aload_n 0, 0, 0, 0), (.aload_n 0, 0, 0, 0), (.getfield 96, 6, 13, 0), (.iload_n 3, 0, 0, 0), (.aload_n 0, 0, 0, 0), (.getfield 7, 6, 0, 0), (.bipush 7, 0, 0, 7), (.iaload, 0, 0, 0)] [r24] (q := 103) (L' := [some (.ref p0), some (.int p1), some (.int p2), some (.int p3)]) (st' := [.int (gi w21 r24 7), .int p3, .int (gi w21 p0 13), .ref p0]) (v1 := w21) (by decide +kernel) rfl ⟨h19, ⟨h19, h25⟩, ⟨(Or.inl (kin_alen h26)), (vin_J h26 (by unfold vp_in; decide))⟩, trivial⟩ ?_
      refine sc_ri (pc3 := 106) (cf_V (idx := 138) (ci := 6) [.int (gi w21 p0 13), .int p3, .int (gi w21 r24 7)] m_gm_gateValue (by decide) ⟨by decide, by decide⟩ (List.mem_of_getElem? (i := 2025) (by decide +kernel)) rfl (Nat.le_of_ble_eq_true rfl) h19 (by decide +kernel) (Nat.le_of_ble_eq_true rfl) rfl) (ok_gm_gateValue p0 (gi w21 p0 13) p3 (gi w21 r24 7) S w21) rfl (fun x27 => ?_)
      refine sim_seg [(.iload_n 2, 0, 0, 0), (.isub, 0, 0, 0)] [] (q := 108) (L' := [some (.ref p0), some (.int p1), some (.int p2), some (.int p3)]) (st' := [.int (x27 - p2)]) (v1 := w21) (by decide +kernel) rfl trivial ?_
      refine sc_ri (pc3 := 111) (cf_S (idx := 317) [.int (x27 - p2)] m_ma_abs ⟨by decide, by decide⟩ (List.mem_of_getElem? (i := 1975) (by decide +kernel)) rfl (Nat.le_of_ble_eq_true rfl) (by decide +kernel) (Nat.le_of_ble_eq_true rfl) rfl) (ok_ma_abs (x27 - p2) S w21) rfl (fun x28 => ?_)
      refine sim_seg [(.iload_n 1, 0, 0, 0)] [] (q := 112) (L' := [some (.ref p0), some (.int p1), some (.int p2), some (.int p3)]) (st' := [.int p1, .int x28]) (v1 := w21) (by decide +kernel) rfl trivial ?_
      refine sim_gt (o := 9) (tg := 121) (f := 115) (by decide +kernel) rfl rfl (fun _ => ?_) (fun _ => ?_)
      · refine sim_seg [(.iinc 3 1, 0, 0, 1)] [] (q := 124) (L' := [some (.ref p0), some (.int p1), some (.int p2), some (.int (p3 + (J 1)))]) (st' := []) (v1 := w21) (by decide +kernel) rfl trivial ?_
        refine sim_seg [(.goto (-56), 0, 0, 0)] [] (q := 68) (L' := [some (.ref p0), some (.int p1), some (.int p2), some (.int (p3 + (J 1)))]) (st' := []) (v1 := w21) (by decide +kernel) rfl trivial ?_
        exact j68 w21 p0 p1 p2 (p3 + (J 1))
      · refine sim_seg [(.aload_n 0, 0, 0, 0), (.iload_n 3, 0, 0, 0)] [] (q := 117) (L' := [some (.ref p0), some (.int p1), some (.int p2), some (.int p3)]) (st' := [.int p3, .ref p0]) (v1 := w21) (by decide +kernel) rfl trivial ?_
        refine sc_pi (pc3 := 120) (cf_V (idx := 301) (ci := 6) [.int p3] m_gm_back (by decide) ⟨by decide, by decide⟩ (List.mem_of_getElem? (i := 1919) (by decide +kernel)) rfl (Nat.le_of_ble_eq_true rfl) h19 (by decide +kernel) (Nat.le_of_ble_eq_true rfl) rfl) (ok_gm_back N p0 p3 S w21) rfl (fun x29 w30 => ?_)
        exact sim_iret (by decide +kernel) rfl rfl rfl
theorem sR_gm_gateNear_68 (N : Nat)  (S : shp)  (n : Nat) : ∀ (v : vl) (p0 : Nat) (p1 : Int32) (p2 : Int32) (p3 : Int32), SimK B_gm_gateNear 68 [some (.ref p0), some (.int p1), some (.int p2), some (.int p3)] [] S v (K_gm_gateNear_68 N  n S v p0 p1 p2 p3) (ρpi S) := by
  induction n with
  | zero => intro v p0 p1 p2 p3; exact sim_none
  | succ k ih => intro v p0 p1 p2 p3; exact sY_gm_gateNear_68 N   _ S  ih v p0 p1 p2 p3
theorem sK_gm_gateNear_68 (N : Nat)  (n : Nat) (S : shp) (v : vl) (p0 : Nat) (p1 : Int32) (p2 : Int32) (p3 : Int32) : SimK B_gm_gateNear 68 [some (.ref p0), some (.int p1), some (.int p2), some (.int p3)] [] S v (K_gm_gateNear_68 N  n S v p0 p1 p2 p3) (ρpi S) := sR_gm_gateNear_68 N   S  n  v p0 p1 p2 p3
noncomputable def K_gm_gateNear_21 (N : Nat)  (S : shp) (v : vl) (p0 : Nat) (p1 : Int32) (s0 : Nat) (s1 : Int32) : Option (Int32 × vl) :=
  grd (kin S s0 = some (0, 6)) <| (F_gm_fails s0 s1 (J 1) S v).bind fun (x5, w6) => (if x5 = (J 0) then grd (kin S p0 = some (0, 6)) <| (F_gm_foretold N p0 (J 1) (J 4) S w6).bind fun (x8, w9) => (if x8 = (J (-1)) then some (((J (-1)), w9)) else (F_gm_thinks N p0 S w9).bind fun w10 => (F_gm_waitsFor N p0 (J 2) S w10).bind fun (x11, w12) => (if x11 = (J 0) then (F_gm_back N p0 (J (-1)) S w12).bind fun (x13, w14) => some ((x13, w14)) else (F_gm_beginsNow p0 S w12).bind fun w15 => K_gm_gateNear_68 N  N S w15 p0 p1 x8 (J 1))) else some (((J 0), w6)))
theorem sK_gm_gateNear_21 (N : Nat)   (S : shp) (v : vl) (p0 : Nat) (p1 : Int32) (s0 : Nat) (s1 : Int32) : SimK B_gm_gateNear 21 [some (.ref p0), some (.int p1), none, none] [.int s1, .ref s0] S v (K_gm_gateNear_21 N  S v p0 p1 s0 s1) (ρpi S) := by
  unfold K_gm_gateNear_21
  refine sim_seg [(.iconst 1, 0, 0, 1)] [] (q := 22) (L' := [some (.ref p0), some (.int p1), none, none]) (st' := [.int (J 1), .int s1, .ref s0]) (v1 := v) (by decide +kernel) rfl trivial ?_
  refine sim_grd fun h4 => ?_
  refine sc_pi (pc3 := 25) (cf_V (idx := 279) (ci := 6) [.int s1, .int (J 1)] m_gm_fails (by decide) ⟨by decide, by decide⟩ (List.mem_of_getElem? (i := 1827) (by decide +kernel)) rfl (Nat.le_of_ble_eq_true rfl) h4 (by decide +kernel) (Nat.le_of_ble_eq_true rfl) rfl) (ok_gm_fails s0 s1 (J 1) S v) rfl (fun x5 w6 => ?_)
  refine sim_eq0 (o := 5) (tg := 30) (f := 28) (by decide +kernel) rfl rfl (fun _ => ?_) (fun _ => ?_)
  · refine sim_seg [(.aload_n 0, 0, 0, 0), (.iconst 1, 0, 0, 1), (.iconst 4, 0, 0, 4)] [] (q := 33) (L' := [some (.ref p0), some (.int p1), none, none]) (st' := [.int (J 4), .int (J 1), .ref p0]) (v1 := w6) (by decide +kernel) rfl trivial ?_
    refine sim_grd fun h7 => ?_
    refine sc_pi (pc3 := 36) (cf_V (idx := 323) (ci := 6) [.int (J 1), .int (J 4)] m_gm_foretold (by decide) ⟨by decide, by decide⟩ (List.mem_of_getElem? (i := 1980) (by decide +kernel)) rfl (Nat.le_of_ble_eq_true rfl) h7 (by decide +kernel) (Nat.le_of_ble_eq_true rfl) rfl) (ok_gm_foretold N p0 (J 1) (J 4) S w6) rfl (fun x8 w9 => ?_)
    refine sim_seg [(.istore_n 2, 0, 0, 0)] [] (q := 37) (L' := [some (.ref p0), some (.int p1), some (.int x8), none]) (st' := []) (v1 := w9) (by decide +kernel) rfl trivial ?_
    refine sim_seg [(.iload_n 2, 0, 0, 0), (.iconst (-1), 0, 0, (-1))] [] (q := 39) (L' := [some (.ref p0), some (.int p1), some (.int x8), none]) (st' := [.int (J (-1)), .int x8]) (v1 := w9) (by decide +kernel) rfl trivial ?_
    refine sim_ne (o := 5) (tg := 44) (f := 42) (by decide +kernel) rfl rfl (fun _ => ?_) (fun _ => ?_)
    · refine sim_seg [(.iconst (-1), 0, 0, (-1))] [] (q := 43) (L' := [some (.ref p0), some (.int p1), some (.int x8), none]) (st' := [.int (J (-1))]) (v1 := w9) (by decide +kernel) rfl trivial ?_
      exact sim_iret (by decide +kernel) rfl rfl rfl
    · refine sim_seg [(.aload_n 0, 0, 0, 0)] [] (q := 45) (L' := [some (.ref p0), some (.int p1), some (.int x8), none]) (st' := [.ref p0]) (v1 := w9) (by decide +kernel) rfl trivial ?_
      refine sc_pv (pc3 := 48) (cf_V (idx := 295) (ci := 6) [] m_gm_thinks (by decide) ⟨by decide, by decide⟩ (List.mem_of_getElem? (i := 1884) (by decide +kernel)) rfl (Nat.le_of_ble_eq_true rfl) h7 (by decide +kernel) (Nat.le_of_ble_eq_true rfl) rfl) (ok_gm_thinks N p0 S w9) rfl (fun w10 => ?_)
      refine sim_seg [(.aload_n 0, 0, 0, 0), (.iconst 2, 0, 0, 2)] [] (q := 50) (L' := [some (.ref p0), some (.int p1), some (.int x8), none]) (st' := [.int (J 2), .ref p0]) (v1 := w10) (by decide +kernel) rfl trivial ?_
      refine sc_pi (pc3 := 53) (cf_V (idx := 108) (ci := 6) [.int (J 2)] m_gm_waitsFor (by decide) ⟨by decide, by decide⟩ (List.mem_of_getElem? (i := 1939) (by decide +kernel)) rfl (Nat.le_of_ble_eq_true rfl) h7 (by decide +kernel) (Nat.le_of_ble_eq_true rfl) rfl) (ok_gm_waitsFor N p0 (J 2) S w10) rfl (fun x11 w12 => ?_)
      refine sim_ne0 (o := 9) (tg := 62) (f := 56) (by decide +kernel) rfl rfl (fun _ => ?_) (fun _ => ?_)
      · refine sim_seg [(.aload_n 0, 0, 0, 0), (.iconst (-1), 0, 0, (-1))] [] (q := 58) (L' := [some (.ref p0), some (.int p1), some (.int x8), none]) (st' := [.int (J (-1)), .ref p0]) (v1 := w12) (by decide +kernel) rfl trivial ?_
        refine sc_pi (pc3 := 61) (cf_V (idx := 301) (ci := 6) [.int (J (-1))] m_gm_back (by decide) ⟨by decide, by decide⟩ (List.mem_of_getElem? (i := 1919) (by decide +kernel)) rfl (Nat.le_of_ble_eq_true rfl) h7 (by decide +kernel) (Nat.le_of_ble_eq_true rfl) rfl) (ok_gm_back N p0 (J (-1)) S w12) rfl (fun x13 w14 => ?_)
        exact sim_iret (by decide +kernel) rfl rfl rfl
      · refine sim_seg [(.aload_n 0, 0, 0, 0)] [] (q := 63) (L' := [some (.ref p0), some (.int p1), some (.int x8), none]) (st' := [.ref p0]) (v1 := w12) (by decide +kernel) rfl trivial ?_
        refine sc_pv (pc3 := 66) (cf_V (idx := 111) (ci := 6) [] m_gm_beginsNow (by decide) ⟨by decide, by decide⟩ (List.mem_of_getElem? (i := 1996) (by decide +kernel)) rfl (Nat.le_of_ble_eq_true rfl) h7 (by decide +kernel) (Nat.le_of_ble_eq_true rfl) rfl) (ok_gm_beginsNow p0 S w12) rfl (fun w15 => ?_)
        refine sim_seg [(.iconst 1, 0, 0, 1), (.istore_n 3, 0, 0, 0)] [] (q := 68) (L' := [some (.ref p0), some (.int p1), some (.int x8), some (.int (J 1))]) (st' := []) (v1 := w15) (by decide +kernel) rfl trivial ?_
        exact sK_gm_gateNear_68 N N S w15 p0 p1 x8 (J 1)
  · refine sim_seg [(.iconst 0, 0, 0, 0)] [] (q := 29) (L' := [some (.ref p0), some (.int p1), none, none]) (st' := [.int (J 0)]) (v1 := w6) (by decide +kernel) rfl trivial ?_
    exact sim_iret (by decide +kernel) rfl rfl rfl
noncomputable def F_gm_gateNear (N : Nat) (a0 : Nat) (b1 : Int32) (S : shp) (v : vl) : Option (Int32 × vl) :=
  grd (kin S a0 = some (0, 6)) <| lt (si v a0 10 (J 0)) fun w2 => (F_gm_inRange b1 (J 0) (J 2000000) S w2).bind fun x3 => (if x3 = (J 0) then K_gm_gateNear_21 N  S w2 a0 b1 a0 (J 1) else K_gm_gateNear_21 N  S w2 a0 b1 a0 (J 0))
theorem ok_gm_gateNear (N : Nat) (a0 : Nat) (b1 : Int32) (S : shp) (v : vl) : SimK B_gm_gateNear 0 (entB (bN B_gm_gateNear) [.ref a0, .int b1]) [] S v (F_gm_gateNear N a0 b1 S v) (ρpi S) := by
  show SimK B_gm_gateNear 0 [some (.ref a0), some (.int b1), none, none] [] S v (F_gm_gateNear N a0 b1 S v) _
  unfold F_gm_gateNear
  refine sim_grd fun h1 => ?_
  refine sim_seg [(.aload_n 0, 0, 0, 0), (.iconst 0, 0, 0, 0), (.putfield 38, 6, 10, 0), (.aload_n 0, 0, 0, 0), (.iload_n 1, 0, 0, 0), (.iconst 0, 0, 0, 0), (.ldc 92, 0, 0, 2000000)] [] (q := 10) (L' := [some (.ref a0), some (.int b1), none, none]) (st' := [.int (J 2000000), .int (J 0), .int b1, .ref a0]) (v1 := (si v a0 10 (J 0))) (by decide +kernel) rfl ⟨h1, trivial⟩ ?_
  refine sim_lt (x := (si v a0 10 (J 0))) ?_
  generalize (si v a0 10 (J 0)) = w2
  refine sc_ri (pc3 := 13) (cf_S (idx := 41) [.int b1, .int (J 0), .int (J 2000000)] m_gm_inRange ⟨by decide, by decide⟩ (List.mem_of_getElem? (i := 1712) (by decide +kernel)) rfl (Nat.le_of_ble_eq_true rfl) (by decide +kernel) (Nat.le_of_ble_eq_true rfl) rfl) (ok_gm_inRange b1 (J 0) (J 2000000) S w2) rfl (fun x3 => ?_)
  refine sim_ne0 (o := 7) (tg := 20) (f := 16) (by decide +kernel) rfl rfl (fun _ => ?_) (fun _ => ?_)
  · refine sim_seg [(.iconst 1, 0, 0, 1), (.goto 4, 0, 0, 0)] [] (q := 21) (L' := [some (.ref a0), some (.int b1), none, none]) (st' := [.int (J 1), .ref a0]) (v1 := w2) (by decide +kernel) rfl trivial ?_
    exact sK_gm_gateNear_21 N S w2 a0 b1 a0 (J 1)
  · refine sim_seg [(.iconst 0, 0, 0, 0)] [] (q := 21) (L' := [some (.ref a0), some (.int b1), none, none]) (st' := [.int (J 0), .ref a0]) (v1 := w2) (by decide +kernel) rfl trivial ?_
    exact sK_gm_gateNear_21 N S w2 a0 b1 a0 (J 0)
def B_gm_outputsBy : bd := (⟨"GateCounterModel", "outputsBy", "(III)I"⟩, prog_8_method_97_code, 3, (some .int), [], 6, 0)
theorem m_gm_outputsBy : mS B_gm_outputsBy 3 := ⟨⟨⟨by decide +kernel, Or.inl rfl⟩, rfl, (List.mem_of_getElem? (i := 2079) (by decide +kernel)), by decide +kernel, (List.mem_of_getElem? (i := 104) (by decide +kernel)), ⟨by decide, by decide⟩, by decide⟩, rfl, (by unfold nar; decide +kernel), (List.mem_of_getElem? (i := 2078) (by decide +kernel))⟩
noncomputable def F_gm_outputsBy (b0 : Int32) (b1 : Int32) (b2 : Int32) (S : shp) (v : vl) : Option Int32 :=
  grd (¬ b0 = 0) <| some (((b2 / b0) - (b1 / b0)))
theorem ok_gm_outputsBy (b0 : Int32) (b1 : Int32) (b2 : Int32) (S : shp) (v : vl) : SimK B_gm_outputsBy 0 (entB (bN B_gm_outputsBy) [.int b0, .int b1, .int b2]) [] S v (F_gm_outputsBy b0 b1 b2 S v) (ρri S v) := by
  show SimK B_gm_outputsBy 0 [some (.int b0), some (.int b1), some (.int b2)] [] S v (F_gm_outputsBy b0 b1 b2 S v) _
  unfold F_gm_outputsBy
  refine sim_grd fun h1 => ?_
  refine sim_seg [(.iload_n 2, 0, 0, 0), (.iload_n 0, 0, 0, 0), (.idiv, 0, 0, 0), (.iload_n 1, 0, 0, 0), (.iload_n 0, 0, 0, 0), (.idiv, 0, 0, 0), (.isub, 0, 0, 0)] [] (q := 7) (L' := [some (.int b0), some (.int b1), some (.int b2)]) (st' := [.int ((b2 / b0) - (b1 / b0))]) (v1 := v) (by decide +kernel) rfl ⟨h1, h1, trivial⟩ ?_
  exact sim_iret (by decide +kernel) rfl rfl rfl
def B_gm_bestPrescale : bd := (⟨"GateCounterModel", "bestPrescale", "()I"⟩, prog_8_method_98_code, 9, (some .int), [], 6, 6)
theorem m_gm_bestPrescale : mV B_gm_bestPrescale 6 0 := ⟨⟨⟨by decide +kernel, Or.inl rfl⟩, rfl, (List.mem_of_getElem? (i := 2076) (by decide +kernel)), by decide +kernel, (List.mem_of_getElem? (i := 104) (by decide +kernel)), ⟨by decide, by decide⟩, by decide⟩, rfl, (by unfold nar; decide +kernel), (List.mem_of_getElem? (i := 2074) (by decide +kernel)), rfl, (List.mem_of_getElem? (i := 2075) (by decide +kernel))⟩
noncomputable def Y_gm_bestPrescale_56 (N : Nat)  (i56 : vl → Nat → Int32 → Int32 → Int32 → Int32 → Int32 → Option (Int32 × vl)) (S : shp) (v : vl) (p0 : Nat) (p3 : Int32) (p4 : Int32) (p5 : Int32) (p6 : Int32) (p7 : Int32) : Option (Int32 × vl) :=
  (if (J 16) < p7 then grd (kin S p0 = some (0, 6)) <| (F_gm_back N p0 p5 S v).bind fun (x12, w13) => some ((x12, w13)) else (F_gm_outputsBy p7 p3 p4 S v).bind fun x14 => grd (kin S p0 = some (0, 6)) <| (gr S p0 0).bind fun r16 => grd (kin S r16 = some (1, 199)) <| (F_gm_valueOf p0 ((Int32.toInt64 x14) * (Int32.toInt64 p7)) (gi v r16 5) (gi v r16 7) S v).bind fun x19 => (if p6 < x19 then i56 v p0 p3 p4 p7 x19 (p7 * (J 2)) else i56 v p0 p3 p4 p5 p6 (p7 * (J 2))))
noncomputable def K_gm_bestPrescale_56 (N : Nat)  (n : Nat) (S : shp) : vl → Nat → Int32 → Int32 → Int32 → Int32 → Int32 → Option (Int32 × vl) :=
  Nat.rec (motive := fun _ => vl → Nat → Int32 → Int32 → Int32 → Int32 → Int32 → Option (Int32 × vl)) (fun _ _ _ _ _ _ _ => none) (fun _ i => Y_gm_bestPrescale_56 N  i S) n
theorem sY_gm_bestPrescale_56 (N : Nat)  (i56 : vl → Nat → Int32 → Int32 → Int32 → Int32 → Int32 → Option (Int32 × vl)) (S : shp)  (j56 : ∀ (v : vl) (p0 : Nat) (p3 : Int32) (p4 : Int32) (p5 : Int32) (p6 : Int32) (p7 : Int32), SimK B_gm_bestPrescale 56 [some (.ref p0), none, none, some (.int p3), some (.int p4), some (.int p5), some (.int p6), some (.int p7), none] [] S v (i56 v p0 p3 p4 p5 p6 p7) (ρpi S)) (v : vl) (p0 : Nat) (p3 : Int32) (p4 : Int32) (p5 : Int32) (p6 : Int32) (p7 : Int32) : SimK B_gm_bestPrescale 56 [some (.ref p0), none, none, some (.int p3), some (.int p4), some (.int p5), some (.int p6), some (.int p7), none] [] S v (Y_gm_bestPrescale_56 N  i56 S v p0 p3 p4 p5 p6 p7) (ρpi S) := by
  unfold Y_gm_bestPrescale_56
  refine sim_seg [(.iload 7, 0, 0, 0), (.bipush 16, 0, 0, 16)] [] (q := 60) (L' := [some (.ref p0), none, none, some (.int p3), some (.int p4), some (.int p5), some (.int p6), some (.int p7), none]) (st' := [.int (J 16), .int p7]) (v1 := v) (by decide +kernel) rfl trivial ?_
  refine sim_gt (o := 62) (tg := 122) (f := 63) (by decide +kernel) rfl rfl (fun _ => ?_) (fun _ => ?_)
  · refine sim_seg [(.aload_n 0, 0, 0, 0), (.iload 5, 0, 0, 0)] [] (q := 125) (L' := [some (.ref p0), none, none, some (.int p3), some (.int p4), some (.int p5), some (.int p6), some (.int p7), none]) (st' := [.int p5, .ref p0]) (v1 := v) (by decide +kernel) rfl trivial ?_
    refine sim_grd fun h11 => ?_
    refine sc_pi (pc3 := 128) (cf_V (idx := 301) (ci := 6) [.int p5] m_gm_back (by decide) ⟨by decide, by decide⟩ (List.mem_of_getElem? (i := 1919) (by decide +kernel)) rfl (Nat.le_of_ble_eq_true rfl) h11 (by decide +kernel) (Nat.le_of_ble_eq_true rfl) rfl) (ok_gm_back N p0 p5 S v) rfl (fun x12 w13 => ?_)
    exact sim_iret (by decide +kernel) rfl rfl rfl
  · refine sim_seg [(.aload_n 0, 0, 0, 0), (.iload 7, 0, 0, 0), (.iload_n 3, 0, 0, 0), (.iload 4, 0, 0, 0)] [] (q := 69) (L' := [some (.ref p0), none, none, some (.int p3), some (.int p4), some (.int p5), some (.int p6), some (.int p7), none]) (st' := [.int p4, .int p3, .int p7, .ref p0]) (v1 := v) (by decide +kernel) rfl trivial ?_
    refine sc_ri (pc3 := 72) (cf_S (idx := 331) [.int p7, .int p3, .int p4] m_gm_outputsBy ⟨by decide, by decide⟩ (List.mem_of_getElem? (i := 2077) (by decide +kernel)) rfl (Nat.le_of_ble_eq_true rfl) (by decide +kernel) (Nat.le_of_ble_eq_true rfl) rfl) (ok_gm_outputsBy p7 p3 p4 S v) rfl (fun x14 => ?_)
    refine sim_grd fun h15 => ?_
    refine sim_bind fun r16 h17 => ?_
    refine sim_grd fun h18 => ?_
    refine sim_seg [(.i2l, 0, 0, 0), (.iload 7, 0, 0, 0), (.i2l, 0, 0, 0), (.lmul, 0, 0, 0), (.aload_n 0, 0, 0, 0), (.getfield 7, 6, 0, 0), (.iconst 5, 0, 0, 5), (.iaload, 0, 0, 0), (.aload_n 0, 0, 0, 0), (.getfield 7, 6, 0, 0), (.bipush 7, 0, 0, 7), (.iaload, 0, 0, 0)] [r16, r16] (q := 90) (L' := [some (.ref p0), none, none, some (.int p3), some (.int p4), some (.int p5), some (.int p6), some (.int p7), none]) (st' := [.int (gi v r16 7), .int (gi v r16 5), .long ((Int32.toInt64 x14) * (Int32.toInt64 p7)), .ref p0]) (v1 := v) (by decide +kernel) rfl ⟨⟨h15, h17⟩, ⟨(Or.inl (kin_alen h18)), (vin_J h18 (by unfold vp_in; decide))⟩, ⟨h15, h17⟩, ⟨(Or.inl (kin_alen h18)), (vin_J h18 (by unfold vp_in; decide))⟩, trivial⟩ ?_
    refine sc_ri (pc3 := 93) (cf_V (idx := 130) (ci := 6) [.long ((Int32.toInt64 x14) * (Int32.toInt64 p7)), .int (gi v r16 5), .int (gi v r16 7)] m_gm_valueOf (by decide) ⟨by decide, by decide⟩ (List.mem_of_getElem? (i := 2020) (by decide +kernel)) rfl (Nat.le_of_ble_eq_true rfl) h15 (by decide +kernel) (Nat.le_of_ble_eq_true rfl) rfl) (ok_gm_valueOf p0 ((Int32.toInt64 x14) * (Int32.toInt64 p7)) (gi v r16 5) (gi v r16 7) S v) rfl (fun x19 => ?_)
    refine sim_seg [(.istore 8, 0, 0, 0)] [] (q := 95) (L' := [some (.ref p0), none, none, some (.int p3), some (.int p4), some (.int p5), some (.int p6), some (.int p7), some (.int x19)]) (st' := []) (v1 := v) (by decide +kernel) rfl trivial ?_
    refine sim_seg [(.iload 8, 0, 0, 0), (.iload 6, 0, 0, 0)] [] (q := 99) (L' := [some (.ref p0), none, none, some (.int p3), some (.int p4), some (.int p5), some (.int p6), some (.int p7), some (.int x19)]) (st' := [.int p6, .int x19]) (v1 := v) (by decide +kernel) rfl trivial ?_
    refine sim_gt (o := 6) (tg := 105) (f := 102) (by decide +kernel) rfl rfl (fun _ => ?_) (fun _ => ?_)
    · refine sim_seg [(.iload 7, 0, 0, 0), (.istore 5, 0, 0, 0)] [] (q := 109) (L' := [some (.ref p0), none, none, some (.int p3), some (.int p4), some (.int p7), some (.int p6), some (.int p7), some (.int x19)]) (st' := []) (v1 := v) (by decide +kernel) rfl trivial ?_
      refine sim_seg [(.iload 8, 0, 0, 0), (.istore 6, 0, 0, 0)] [] (q := 113) (L' := [some (.ref p0), none, none, some (.int p3), some (.int p4), some (.int p7), some (.int x19), some (.int p7), some (.int x19)]) (st' := []) (v1 := v) (by decide +kernel) rfl trivial ?_
      refine sim_seg [(.iload 7, 0, 0, 0), (.iconst 2, 0, 0, 2), (.imul, 0, 0, 0), (.istore 7, 0, 0, 0)] [] (q := 119) (L' := [some (.ref p0), none, none, some (.int p3), some (.int p4), some (.int p7), some (.int x19), some (.int (p7 * (J 2))), some (.int x19)]) (st' := []) (v1 := v) (by decide +kernel) rfl trivial ?_
      refine sim_seg [(.goto (-63), 0, 0, 0)] [] (q := 56) (L' := [some (.ref p0), none, none, some (.int p3), some (.int p4), some (.int p7), some (.int x19), some (.int (p7 * (J 2))), some (.int x19)]) (st' := []) (v1 := v) (by decide +kernel) rfl trivial ?_
      exact sim_wk (L0 := [some (.ref p0), none, none, some (.int p3), some (.int p4), some (.int p7), some (.int x19), some (.int (p7 * (J 2))), none]) ⟨rfl, rfl, rfl, rfl, rfl, rfl, trivial⟩ (j56 v p0 p3 p4 p7 x19 (p7 * (J 2)))
    · refine sim_seg [(.goto 11, 0, 0, 0), (.iload 7, 0, 0, 0), (.iconst 2, 0, 0, 2), (.imul, 0, 0, 0), (.istore 7, 0, 0, 0)] [] (q := 119) (L' := [some (.ref p0), none, none, some (.int p3), some (.int p4), some (.int p5), some (.int p6), some (.int (p7 * (J 2))), some (.int x19)]) (st' := []) (v1 := v) (by decide +kernel) rfl trivial ?_
      refine sim_seg [(.goto (-63), 0, 0, 0)] [] (q := 56) (L' := [some (.ref p0), none, none, some (.int p3), some (.int p4), some (.int p5), some (.int p6), some (.int (p7 * (J 2))), some (.int x19)]) (st' := []) (v1 := v) (by decide +kernel) rfl trivial ?_
      exact sim_wk (L0 := [some (.ref p0), none, none, some (.int p3), some (.int p4), some (.int p5), some (.int p6), some (.int (p7 * (J 2))), none]) ⟨rfl, rfl, rfl, rfl, rfl, rfl, trivial⟩ (j56 v p0 p3 p4 p5 p6 (p7 * (J 2)))
theorem sR_gm_bestPrescale_56 (N : Nat)  (S : shp)  (n : Nat) : ∀ (v : vl) (p0 : Nat) (p3 : Int32) (p4 : Int32) (p5 : Int32) (p6 : Int32) (p7 : Int32), SimK B_gm_bestPrescale 56 [some (.ref p0), none, none, some (.int p3), some (.int p4), some (.int p5), some (.int p6), some (.int p7), none] [] S v (K_gm_bestPrescale_56 N  n S v p0 p3 p4 p5 p6 p7) (ρpi S) := by
  induction n with
  | zero => intro v p0 p3 p4 p5 p6 p7; exact sim_none
  | succ k ih => intro v p0 p3 p4 p5 p6 p7; exact sY_gm_bestPrescale_56 N   _ S  ih v p0 p3 p4 p5 p6 p7
theorem sK_gm_bestPrescale_56 (N : Nat)  (n : Nat) (S : shp) (v : vl) (p0 : Nat) (p3 : Int32) (p4 : Int32) (p5 : Int32) (p6 : Int32) (p7 : Int32) : SimK B_gm_bestPrescale 56 [some (.ref p0), none, none, some (.int p3), some (.int p4), some (.int p5), some (.int p6), some (.int p7), none] [] S v (K_gm_bestPrescale_56 N  n S v p0 p3 p4 p5 p6 p7) (ρpi S) := sR_gm_bestPrescale_56 N   S  n  v p0 p3 p4 p5 p6 p7
noncomputable def F_gm_bestPrescale (N : Nat) (a0 : Nat) (S : shp) (v : vl) : Option (Int32 × vl) :=
  grd (kin S a0 = some (0, 6)) <| lt (si v a0 10 (J 0)) fun w2 => (F_gm_thinks N a0 S w2).bind fun w3 => (gr S a0 0).bind fun r4 => grd (kin S r4 = some (1, 199)) <| (F_gm_measuresGate N a0 S w3).bind fun (x7, w8) => lt ((gi w8 a0 14) - (gi w3 r4 14)) fun x9 => lt ((gi w8 a0 15) - (gi w3 r4 14)) fun x10 => (if x7 = (J 0) then K_gm_bestPrescale_56 N  N S w8 a0 x9 x10 (J (-1)) (J (-1)) (J 1) else (F_gm_back N a0 (J (-1)) S w8).bind fun (x20, w21) => some ((x20, w21)))
theorem ok_gm_bestPrescale (N : Nat) (a0 : Nat) (S : shp) (v : vl) : SimK B_gm_bestPrescale 0 (entB (bN B_gm_bestPrescale) [.ref a0]) [] S v (F_gm_bestPrescale N a0 S v) (ρpi S) := by
  show SimK B_gm_bestPrescale 0 [some (.ref a0), none, none, none, none, none, none, none, none] [] S v (F_gm_bestPrescale N a0 S v) _
  unfold F_gm_bestPrescale
  refine sim_grd fun h1 => ?_
  refine sim_seg [(.aload_n 0, 0, 0, 0), (.iconst 0, 0, 0, 0), (.putfield 38, 6, 10, 0), (.aload_n 0, 0, 0, 0)] [] (q := 6) (L' := [some (.ref a0), none, none, none, none, none, none, none, none]) (st' := [.ref a0]) (v1 := (si v a0 10 (J 0))) (by decide +kernel) rfl ⟨h1, trivial⟩ ?_
  refine sim_lt (x := (si v a0 10 (J 0))) ?_
  generalize (si v a0 10 (J 0)) = w2
  refine sc_pv (pc3 := 9) (cf_V (idx := 295) (ci := 6) [] m_gm_thinks (by decide) ⟨by decide, by decide⟩ (List.mem_of_getElem? (i := 1884) (by decide +kernel)) rfl (Nat.le_of_ble_eq_true rfl) h1 (by decide +kernel) (Nat.le_of_ble_eq_true rfl) rfl) (ok_gm_thinks N a0 S w2) rfl (fun w3 => ?_)
  refine sim_bind fun r4 h5 => ?_
  refine sim_grd fun h6 => ?_
  refine sim_seg [(.aload_n 0, 0, 0, 0), (.getfield 7, 6, 0, 0), (.bipush 14, 0, 0, 14), (.iaload, 0, 0, 0), (.istore_n 1, 0, 0, 0)] [r4] (q := 17) (L' := [some (.ref a0), some (.int (gi w3 r4 14)), none, none, none, none, none, none, none]) (st' := []) (v1 := w3) (by decide +kernel) rfl ⟨⟨h1, h5⟩, ⟨(Or.inl (kin_alen h6)), (vin_J h6 (by unfold vp_in; decide))⟩, trivial⟩ ?_
  refine sim_seg [(.aload_n 0, 0, 0, 0)] [] (q := 18) (L' := [some (.ref a0), some (.int (gi w3 r4 14)), none, none, none, none, none, none, none]) (st' := [.ref a0]) (v1 := w3) (by decide +kernel) rfl trivial ?_
  refine sc_pi (pc3 := 21) (cf_V (idx := 125) (ci := 6) [] m_gm_measuresGate (by decide) ⟨by decide, by decide⟩ (List.mem_of_getElem? (i := 2004) (by decide +kernel)) rfl (Nat.le_of_ble_eq_true rfl) h1 (by decide +kernel) (Nat.le_of_ble_eq_true rfl) rfl) (ok_gm_measuresGate N a0 S w3) rfl (fun x7 w8 => ?_)
  refine sim_seg [(.istore_n 2, 0, 0, 0)] [] (q := 22) (L' := [some (.ref a0), some (.int (gi w3 r4 14)), some (.int x7), none, none, none, none, none, none]) (st' := []) (v1 := w8) (by decide +kernel) rfl trivial ?_
  refine sim_seg [(.aload_n 0, 0, 0, 0), (.getfield 99, 6, 14, 0), (.iload_n 1, 0, 0, 0), (.isub, 0, 0, 0), (.istore_n 3, 0, 0, 0)] [] (q := 29) (L' := [some (.ref a0), some (.int (gi w3 r4 14)), some (.int x7), some (.int ((gi w8 a0 14) - (gi w3 r4 14))), none, none, none, none, none]) (st' := []) (v1 := w8) (by decide +kernel) rfl ⟨h1, trivial⟩ ?_
  refine sim_nm ((gi w8 a0 14) - (gi w3 r4 14)) (fun x9 => [some (.ref a0), some (.int (gi w3 r4 14)), some (.int x7), some (.int x9), none, none, none, none, none]) (fun x9 => []) (fun x9 => ?_) rfl rfl
  refine sim_seg [(.aload_n 0, 0, 0, 0), (.getfield 105, 6, 15, 0), (.iload_n 1, 0, 0, 0), (.isub, 0, 0, 0), (.istore 4, 0, 0, 0)] [] (q := 37) (L' := [some (.ref a0), some (.int (gi w3 r4 14)), some (.int x7), some (.int x9), some (.int ((gi w8 a0 15) - (gi w3 r4 14))), none, none, none, none]) (st' := []) (v1 := w8) (by decide +kernel) rfl ⟨h1, trivial⟩ ?_
  refine sim_nm ((gi w8 a0 15) - (gi w3 r4 14)) (fun x10 => [some (.ref a0), some (.int (gi w3 r4 14)), some (.int x7), some (.int x9), some (.int x10), none, none, none, none]) (fun x10 => []) (fun x10 => ?_) rfl rfl
  refine sim_seg [(.iload_n 2, 0, 0, 0)] [] (q := 38) (L' := [some (.ref a0), some (.int (gi w3 r4 14)), some (.int x7), some (.int x9), some (.int x10), none, none, none, none]) (st' := [.int x7]) (v1 := w8) (by decide +kernel) rfl trivial ?_
  refine sim_eq0 (o := 9) (tg := 47) (f := 41) (by decide +kernel) rfl rfl (fun _ => ?_) (fun _ => ?_)
  · refine sim_seg [(.iconst (-1), 0, 0, (-1)), (.istore 5, 0, 0, 0)] [] (q := 50) (L' := [some (.ref a0), some (.int (gi w3 r4 14)), some (.int x7), some (.int x9), some (.int x10), some (.int (J (-1))), none, none, none]) (st' := []) (v1 := w8) (by decide +kernel) rfl trivial ?_
    refine sim_seg [(.iconst (-1), 0, 0, (-1)), (.istore 6, 0, 0, 0)] [] (q := 53) (L' := [some (.ref a0), some (.int (gi w3 r4 14)), some (.int x7), some (.int x9), some (.int x10), some (.int (J (-1))), some (.int (J (-1))), none, none]) (st' := []) (v1 := w8) (by decide +kernel) rfl trivial ?_
    refine sim_seg [(.iconst 1, 0, 0, 1), (.istore 7, 0, 0, 0)] [] (q := 56) (L' := [some (.ref a0), some (.int (gi w3 r4 14)), some (.int x7), some (.int x9), some (.int x10), some (.int (J (-1))), some (.int (J (-1))), some (.int (J 1)), none]) (st' := []) (v1 := w8) (by decide +kernel) rfl trivial ?_
    exact sim_wk (L0 := [some (.ref a0), none, none, some (.int x9), some (.int x10), some (.int (J (-1))), some (.int (J (-1))), some (.int (J 1)), none]) ⟨rfl, rfl, rfl, rfl, rfl, rfl, trivial⟩ (sK_gm_bestPrescale_56 N N S w8 a0 x9 x10 (J (-1)) (J (-1)) (J 1))
  · refine sim_seg [(.aload_n 0, 0, 0, 0), (.iconst (-1), 0, 0, (-1))] [] (q := 43) (L' := [some (.ref a0), some (.int (gi w3 r4 14)), some (.int x7), some (.int x9), some (.int x10), none, none, none, none]) (st' := [.int (J (-1)), .ref a0]) (v1 := w8) (by decide +kernel) rfl trivial ?_
    refine sc_pi (pc3 := 46) (cf_V (idx := 301) (ci := 6) [.int (J (-1))] m_gm_back (by decide) ⟨by decide, by decide⟩ (List.mem_of_getElem? (i := 1919) (by decide +kernel)) rfl (Nat.le_of_ble_eq_true rfl) h1 (by decide +kernel) (Nat.le_of_ble_eq_true rfl) rfl) (ok_gm_back N a0 (J (-1)) S w8) rfl (fun x20 w21 => ?_)
    exact sim_iret (by decide +kernel) rfl rfl rfl
def B_gm_correctionFor : bd := (⟨"GateCounterModel", "correctionFor", "(I)I"⟩, prog_8_method_99_code, 7, (some .int), [], 6, 8)
theorem m_gm_correctionFor : mV B_gm_correctionFor 6 1 := ⟨⟨⟨by decide +kernel, Or.inl rfl⟩, rfl, (List.mem_of_getElem? (i := 2083) (by decide +kernel)), by decide +kernel, (List.mem_of_getElem? (i := 104) (by decide +kernel)), ⟨by decide, by decide⟩, by decide⟩, rfl, (by unfold nar; decide +kernel), (List.mem_of_getElem? (i := 2081) (by decide +kernel)), rfl, (List.mem_of_getElem? (i := 2082) (by decide +kernel))⟩
noncomputable def Y_gm_correctionFor_55 (N : Nat)  (i55 : vl → Nat → Int32 → Int32 → Int32 → Int32 → Int32 → Option (Int32 × vl)) (S : shp) (v : vl) (p0 : Nat) (p1 : Int32) (p2 : Int32) (p3 : Int32) (p4 : Int32) (p5 : Int32) : Option (Int32 × vl) :=
  (if (J 99) < p5 then some ((p3, v)) else grd (kin S p0 = some (0, 6)) <| (gr S p0 0).bind fun r11 => grd (kin S r11 = some (1, 199)) <| (F_gm_gateValue p0 p2 (gi v r11 5) p5 S v).bind fun x14 => (F_ma_abs (x14 - p1) S v).bind fun x15 => (if p3 < (J (-99)) then i55 v p0 p1 p2 p5 x15 (p5 + (J 1)) else (if x15 < p4 then i55 v p0 p1 p2 p5 x15 (p5 + (J 1)) else i55 v p0 p1 p2 p3 p4 (p5 + (J 1)))))
noncomputable def K_gm_correctionFor_55 (N : Nat)  (n : Nat) (S : shp) : vl → Nat → Int32 → Int32 → Int32 → Int32 → Int32 → Option (Int32 × vl) :=
  Nat.rec (motive := fun _ => vl → Nat → Int32 → Int32 → Int32 → Int32 → Int32 → Option (Int32 × vl)) (fun _ _ _ _ _ _ _ => none) (fun _ i => Y_gm_correctionFor_55 N  i S) n
theorem sY_gm_correctionFor_55 (N : Nat)  (i55 : vl → Nat → Int32 → Int32 → Int32 → Int32 → Int32 → Option (Int32 × vl)) (S : shp)  (j55 : ∀ (v : vl) (p0 : Nat) (p1 : Int32) (p2 : Int32) (p3 : Int32) (p4 : Int32) (p5 : Int32), SimK B_gm_correctionFor 55 [some (.ref p0), some (.int p1), some (.int p2), some (.int p3), some (.int p4), some (.int p5), none] [] S v (i55 v p0 p1 p2 p3 p4 p5) (ρpi S)) (v : vl) (p0 : Nat) (p1 : Int32) (p2 : Int32) (p3 : Int32) (p4 : Int32) (p5 : Int32) : SimK B_gm_correctionFor 55 [some (.ref p0), some (.int p1), some (.int p2), some (.int p3), some (.int p4), some (.int p5), none] [] S v (Y_gm_correctionFor_55 N  i55 S v p0 p1 p2 p3 p4 p5) (ρpi S) := by
  unfold Y_gm_correctionFor_55
  refine sim_seg [(.iload 5, 0, 0, 0), (.bipush 99, 0, 0, 99)] [] (q := 59) (L' := [some (.ref p0), some (.int p1), some (.int p2), some (.int p3), some (.int p4), some (.int p5), none]) (st' := [.int (J 99), .int p5]) (v1 := v) (by decide +kernel) rfl trivial ?_
  refine sim_gt (o := 52) (tg := 111) (f := 62) (by decide +kernel) rfl rfl (fun _ => ?_) (fun _ => ?_)
  · refine sim_seg [(.iload_n 3, 0, 0, 0)] [] (q := 112) (L' := [some (.ref p0), some (.int p1), some (.int p2), some (.int p3), some (.int p4), some (.int p5), none]) (st' := [.int p3]) (v1 := v) (by decide +kernel) rfl trivial ?_
    exact sim_iret (by decide +kernel) rfl rfl rfl
  · refine sim_grd fun h10 => ?_
    refine sim_bind fun r11 h12 => ?_
    refine sim_grd fun h13 => ?_
    refine sim_seg [(.aload_n 0, 0, 0, 0), (.iload_n 2, 0, 0, 0), (.aload_n 0, 0, 0, 0), (.getfield 7, 6, 0, 0), (.iconst 5, 0, 0, 5), (.iaload, 0, 0, 0), (.iload 5, 0, 0, 0)] [r11] (q := 72) (L' := [some (.ref p0), some (.int p1), some (.int p2), some (.int p3), some (.int p4), some (.int p5), none]) (st' := [.int p5, .int (gi v r11 5), .int p2, .ref p0]) (v1 := v) (by decide +kernel) rfl ⟨⟨h10, h12⟩, ⟨(Or.inl (kin_alen h13)), (vin_J h13 (by unfold vp_in; decide))⟩, trivial⟩ ?_
    refine sc_ri (pc3 := 75) (cf_V (idx := 138) (ci := 6) [.int p2, .int (gi v r11 5), .int p5] m_gm_gateValue (by decide) ⟨by decide, by decide⟩ (List.mem_of_getElem? (i := 2025) (by decide +kernel)) rfl (Nat.le_of_ble_eq_true rfl) h10 (by decide +kernel) (Nat.le_of_ble_eq_true rfl) rfl) (ok_gm_gateValue p0 p2 (gi v r11 5) p5 S v) rfl (fun x14 => ?_)
    refine sim_seg [(.iload_n 1, 0, 0, 0), (.isub, 0, 0, 0)] [] (q := 77) (L' := [some (.ref p0), some (.int p1), some (.int p2), some (.int p3), some (.int p4), some (.int p5), none]) (st' := [.int (x14 - p1)]) (v1 := v) (by decide +kernel) rfl trivial ?_
    refine sc_ri (pc3 := 80) (cf_S (idx := 317) [.int (x14 - p1)] m_ma_abs ⟨by decide, by decide⟩ (List.mem_of_getElem? (i := 1975) (by decide +kernel)) rfl (Nat.le_of_ble_eq_true rfl) (by decide +kernel) (Nat.le_of_ble_eq_true rfl) rfl) (ok_ma_abs (x14 - p1) S v) rfl (fun x15 => ?_)
    refine sim_seg [(.istore 6, 0, 0, 0)] [] (q := 82) (L' := [some (.ref p0), some (.int p1), some (.int p2), some (.int p3), some (.int p4), some (.int p5), some (.int x15)]) (st' := []) (v1 := v) (by decide +kernel) rfl trivial ?_
    refine sim_seg [(.iload_n 3, 0, 0, 0), (.bipush (-99), 0, 0, (-99))] [] (q := 85) (L' := [some (.ref p0), some (.int p1), some (.int p2), some (.int p3), some (.int p4), some (.int p5), some (.int x15)]) (st' := [.int (J (-99)), .int p3]) (v1 := v) (by decide +kernel) rfl trivial ?_
    refine sim_lt' (o := 13) (tg := 98) (f := 88) (by decide +kernel) rfl rfl (fun _ => ?_) (fun _ => ?_)
    · refine sim_seg [(.iload 5, 0, 0, 0), (.istore_n 3, 0, 0, 0)] [] (q := 101) (L' := [some (.ref p0), some (.int p1), some (.int p2), some (.int p5), some (.int p4), some (.int p5), some (.int x15)]) (st' := []) (v1 := v) (by decide +kernel) rfl trivial ?_
      refine sim_seg [(.iload 6, 0, 0, 0), (.istore 4, 0, 0, 0)] [] (q := 105) (L' := [some (.ref p0), some (.int p1), some (.int p2), some (.int p5), some (.int x15), some (.int p5), some (.int x15)]) (st' := []) (v1 := v) (by decide +kernel) rfl trivial ?_
      refine sim_seg [(.iinc 5 1, 0, 0, 1)] [] (q := 108) (L' := [some (.ref p0), some (.int p1), some (.int p2), some (.int p5), some (.int x15), some (.int (p5 + (J 1))), some (.int x15)]) (st' := []) (v1 := v) (by decide +kernel) rfl trivial ?_
      refine sim_seg [(.goto (-53), 0, 0, 0)] [] (q := 55) (L' := [some (.ref p0), some (.int p1), some (.int p2), some (.int p5), some (.int x15), some (.int (p5 + (J 1))), some (.int x15)]) (st' := []) (v1 := v) (by decide +kernel) rfl trivial ?_
      exact sim_wk (L0 := [some (.ref p0), some (.int p1), some (.int p2), some (.int p5), some (.int x15), some (.int (p5 + (J 1))), none]) ⟨rfl, rfl, rfl, rfl, rfl, rfl, trivial⟩ (j55 v p0 p1 p2 p5 x15 (p5 + (J 1)))
    · refine sim_seg [(.iload 6, 0, 0, 0), (.iload 4, 0, 0, 0)] [] (q := 92) (L' := [some (.ref p0), some (.int p1), some (.int p2), some (.int p3), some (.int p4), some (.int p5), some (.int x15)]) (st' := [.int p4, .int x15]) (v1 := v) (by decide +kernel) rfl trivial ?_
      refine sim_lt' (o := 6) (tg := 98) (f := 95) (by decide +kernel) rfl rfl (fun _ => ?_) (fun _ => ?_)
      · refine sim_seg [(.iload 5, 0, 0, 0), (.istore_n 3, 0, 0, 0)] [] (q := 101) (L' := [some (.ref p0), some (.int p1), some (.int p2), some (.int p5), some (.int p4), some (.int p5), some (.int x15)]) (st' := []) (v1 := v) (by decide +kernel) rfl trivial ?_
        refine sim_seg [(.iload 6, 0, 0, 0), (.istore 4, 0, 0, 0)] [] (q := 105) (L' := [some (.ref p0), some (.int p1), some (.int p2), some (.int p5), some (.int x15), some (.int p5), some (.int x15)]) (st' := []) (v1 := v) (by decide +kernel) rfl trivial ?_
        refine sim_seg [(.iinc 5 1, 0, 0, 1)] [] (q := 108) (L' := [some (.ref p0), some (.int p1), some (.int p2), some (.int p5), some (.int x15), some (.int (p5 + (J 1))), some (.int x15)]) (st' := []) (v1 := v) (by decide +kernel) rfl trivial ?_
        refine sim_seg [(.goto (-53), 0, 0, 0)] [] (q := 55) (L' := [some (.ref p0), some (.int p1), some (.int p2), some (.int p5), some (.int x15), some (.int (p5 + (J 1))), some (.int x15)]) (st' := []) (v1 := v) (by decide +kernel) rfl trivial ?_
        exact sim_wk (L0 := [some (.ref p0), some (.int p1), some (.int p2), some (.int p5), some (.int x15), some (.int (p5 + (J 1))), none]) ⟨rfl, rfl, rfl, rfl, rfl, rfl, trivial⟩ (j55 v p0 p1 p2 p5 x15 (p5 + (J 1)))
      · refine sim_seg [(.goto 10, 0, 0, 0), (.iinc 5 1, 0, 0, 1)] [] (q := 108) (L' := [some (.ref p0), some (.int p1), some (.int p2), some (.int p3), some (.int p4), some (.int (p5 + (J 1))), some (.int x15)]) (st' := []) (v1 := v) (by decide +kernel) rfl trivial ?_
        refine sim_seg [(.goto (-53), 0, 0, 0)] [] (q := 55) (L' := [some (.ref p0), some (.int p1), some (.int p2), some (.int p3), some (.int p4), some (.int (p5 + (J 1))), some (.int x15)]) (st' := []) (v1 := v) (by decide +kernel) rfl trivial ?_
        exact sim_wk (L0 := [some (.ref p0), some (.int p1), some (.int p2), some (.int p3), some (.int p4), some (.int (p5 + (J 1))), none]) ⟨rfl, rfl, rfl, rfl, rfl, rfl, trivial⟩ (j55 v p0 p1 p2 p3 p4 (p5 + (J 1)))
theorem sR_gm_correctionFor_55 (N : Nat)  (S : shp)  (n : Nat) : ∀ (v : vl) (p0 : Nat) (p1 : Int32) (p2 : Int32) (p3 : Int32) (p4 : Int32) (p5 : Int32), SimK B_gm_correctionFor 55 [some (.ref p0), some (.int p1), some (.int p2), some (.int p3), some (.int p4), some (.int p5), none] [] S v (K_gm_correctionFor_55 N  n S v p0 p1 p2 p3 p4 p5) (ρpi S) := by
  induction n with
  | zero => intro v p0 p1 p2 p3 p4 p5; exact sim_none
  | succ k ih => intro v p0 p1 p2 p3 p4 p5; exact sY_gm_correctionFor_55 N   _ S  ih v p0 p1 p2 p3 p4 p5
theorem sK_gm_correctionFor_55 (N : Nat)  (n : Nat) (S : shp) (v : vl) (p0 : Nat) (p1 : Int32) (p2 : Int32) (p3 : Int32) (p4 : Int32) (p5 : Int32) : SimK B_gm_correctionFor 55 [some (.ref p0), some (.int p1), some (.int p2), some (.int p3), some (.int p4), some (.int p5), none] [] S v (K_gm_correctionFor_55 N  n S v p0 p1 p2 p3 p4 p5) (ρpi S) := sR_gm_correctionFor_55 N   S  n  v p0 p1 p2 p3 p4 p5
noncomputable def K_gm_correctionFor_21 (N : Nat)  (S : shp) (v : vl) (p0 : Nat) (p1 : Int32) (s0 : Nat) (s1 : Int32) : Option (Int32 × vl) :=
  grd (kin S s0 = some (0, 6)) <| (F_gm_fails s0 s1 (J 1) S v).bind fun (x5, w6) => (if x5 = (J 0) then grd (kin S p0 = some (0, 6)) <| (F_gm_foretold N p0 (J 0) (J 3) S w6).bind fun (x8, w9) => (if x8 = (J (-1)) then some (((J (-100)), w9)) else K_gm_correctionFor_55 N  N S w9 p0 p1 x8 (J (-100)) (J 0) (J (-99))) else some (((J 0), w6)))
theorem sK_gm_correctionFor_21 (N : Nat)   (S : shp) (v : vl) (p0 : Nat) (p1 : Int32) (s0 : Nat) (s1 : Int32) : SimK B_gm_correctionFor 21 [some (.ref p0), some (.int p1), none, none, none, none, none] [.int s1, .ref s0] S v (K_gm_correctionFor_21 N  S v p0 p1 s0 s1) (ρpi S) := by
  unfold K_gm_correctionFor_21
  refine sim_seg [(.iconst 1, 0, 0, 1)] [] (q := 22) (L' := [some (.ref p0), some (.int p1), none, none, none, none, none]) (st' := [.int (J 1), .int s1, .ref s0]) (v1 := v) (by decide +kernel) rfl trivial ?_
  refine sim_grd fun h4 => ?_
  refine sc_pi (pc3 := 25) (cf_V (idx := 279) (ci := 6) [.int s1, .int (J 1)] m_gm_fails (by decide) ⟨by decide, by decide⟩ (List.mem_of_getElem? (i := 1827) (by decide +kernel)) rfl (Nat.le_of_ble_eq_true rfl) h4 (by decide +kernel) (Nat.le_of_ble_eq_true rfl) rfl) (ok_gm_fails s0 s1 (J 1) S v) rfl (fun x5 w6 => ?_)
  refine sim_eq0 (o := 5) (tg := 30) (f := 28) (by decide +kernel) rfl rfl (fun _ => ?_) (fun _ => ?_)
  · refine sim_seg [(.aload_n 0, 0, 0, 0), (.iconst 0, 0, 0, 0), (.iconst 3, 0, 0, 3)] [] (q := 33) (L' := [some (.ref p0), some (.int p1), none, none, none, none, none]) (st' := [.int (J 3), .int (J 0), .ref p0]) (v1 := w6) (by decide +kernel) rfl trivial ?_
    refine sim_grd fun h7 => ?_
    refine sc_pi (pc3 := 36) (cf_V (idx := 323) (ci := 6) [.int (J 0), .int (J 3)] m_gm_foretold (by decide) ⟨by decide, by decide⟩ (List.mem_of_getElem? (i := 1980) (by decide +kernel)) rfl (Nat.le_of_ble_eq_true rfl) h7 (by decide +kernel) (Nat.le_of_ble_eq_true rfl) rfl) (ok_gm_foretold N p0 (J 0) (J 3) S w6) rfl (fun x8 w9 => ?_)
    refine sim_seg [(.istore_n 2, 0, 0, 0)] [] (q := 37) (L' := [some (.ref p0), some (.int p1), some (.int x8), none, none, none, none]) (st' := []) (v1 := w9) (by decide +kernel) rfl trivial ?_
    refine sim_seg [(.iload_n 2, 0, 0, 0), (.iconst (-1), 0, 0, (-1))] [] (q := 39) (L' := [some (.ref p0), some (.int p1), some (.int x8), none, none, none, none]) (st' := [.int (J (-1)), .int x8]) (v1 := w9) (by decide +kernel) rfl trivial ?_
    refine sim_ne (o := 6) (tg := 45) (f := 42) (by decide +kernel) rfl rfl (fun _ => ?_) (fun _ => ?_)
    · refine sim_seg [(.bipush (-100), 0, 0, (-100))] [] (q := 44) (L' := [some (.ref p0), some (.int p1), some (.int x8), none, none, none, none]) (st' := [.int (J (-100))]) (v1 := w9) (by decide +kernel) rfl trivial ?_
      exact sim_iret (by decide +kernel) rfl rfl rfl
    · refine sim_seg [(.bipush (-100), 0, 0, (-100)), (.istore_n 3, 0, 0, 0)] [] (q := 48) (L' := [some (.ref p0), some (.int p1), some (.int x8), some (.int (J (-100))), none, none, none]) (st' := []) (v1 := w9) (by decide +kernel) rfl trivial ?_
      refine sim_seg [(.iconst 0, 0, 0, 0), (.istore 4, 0, 0, 0)] [] (q := 51) (L' := [some (.ref p0), some (.int p1), some (.int x8), some (.int (J (-100))), some (.int (J 0)), none, none]) (st' := []) (v1 := w9) (by decide +kernel) rfl trivial ?_
      refine sim_seg [(.bipush (-99), 0, 0, (-99)), (.istore 5, 0, 0, 0)] [] (q := 55) (L' := [some (.ref p0), some (.int p1), some (.int x8), some (.int (J (-100))), some (.int (J 0)), some (.int (J (-99))), none]) (st' := []) (v1 := w9) (by decide +kernel) rfl trivial ?_
      exact sK_gm_correctionFor_55 N N S w9 p0 p1 x8 (J (-100)) (J 0) (J (-99))
  · refine sim_seg [(.iconst 0, 0, 0, 0)] [] (q := 29) (L' := [some (.ref p0), some (.int p1), none, none, none, none, none]) (st' := [.int (J 0)]) (v1 := w6) (by decide +kernel) rfl trivial ?_
    exact sim_iret (by decide +kernel) rfl rfl rfl
noncomputable def F_gm_correctionFor (N : Nat) (a0 : Nat) (b1 : Int32) (S : shp) (v : vl) : Option (Int32 × vl) :=
  grd (kin S a0 = some (0, 6)) <| lt (si v a0 10 (J 0)) fun w2 => (F_gm_inRange b1 (J 0) (J 2000000) S w2).bind fun x3 => (if x3 = (J 0) then K_gm_correctionFor_21 N  S w2 a0 b1 a0 (J 1) else K_gm_correctionFor_21 N  S w2 a0 b1 a0 (J 0))
theorem ok_gm_correctionFor (N : Nat) (a0 : Nat) (b1 : Int32) (S : shp) (v : vl) : SimK B_gm_correctionFor 0 (entB (bN B_gm_correctionFor) [.ref a0, .int b1]) [] S v (F_gm_correctionFor N a0 b1 S v) (ρpi S) := by
  show SimK B_gm_correctionFor 0 [some (.ref a0), some (.int b1), none, none, none, none, none] [] S v (F_gm_correctionFor N a0 b1 S v) _
  unfold F_gm_correctionFor
  refine sim_grd fun h1 => ?_
  refine sim_seg [(.aload_n 0, 0, 0, 0), (.iconst 0, 0, 0, 0), (.putfield 38, 6, 10, 0), (.aload_n 0, 0, 0, 0), (.iload_n 1, 0, 0, 0), (.iconst 0, 0, 0, 0), (.ldc 92, 0, 0, 2000000)] [] (q := 10) (L' := [some (.ref a0), some (.int b1), none, none, none, none, none]) (st' := [.int (J 2000000), .int (J 0), .int b1, .ref a0]) (v1 := (si v a0 10 (J 0))) (by decide +kernel) rfl ⟨h1, trivial⟩ ?_
  refine sim_lt (x := (si v a0 10 (J 0))) ?_
  generalize (si v a0 10 (J 0)) = w2
  refine sc_ri (pc3 := 13) (cf_S (idx := 41) [.int b1, .int (J 0), .int (J 2000000)] m_gm_inRange ⟨by decide, by decide⟩ (List.mem_of_getElem? (i := 1712) (by decide +kernel)) rfl (Nat.le_of_ble_eq_true rfl) (by decide +kernel) (Nat.le_of_ble_eq_true rfl) rfl) (ok_gm_inRange b1 (J 0) (J 2000000) S w2) rfl (fun x3 => ?_)
  refine sim_ne0 (o := 7) (tg := 20) (f := 16) (by decide +kernel) rfl rfl (fun _ => ?_) (fun _ => ?_)
  · refine sim_seg [(.iconst 1, 0, 0, 1), (.goto 4, 0, 0, 0)] [] (q := 21) (L' := [some (.ref a0), some (.int b1), none, none, none, none, none]) (st' := [.int (J 1), .ref a0]) (v1 := w2) (by decide +kernel) rfl trivial ?_
    exact sK_gm_correctionFor_21 N S w2 a0 b1 a0 (J 1)
  · refine sim_seg [(.iconst 0, 0, 0, 0)] [] (q := 21) (L' := [some (.ref a0), some (.int b1), none, none, none, none, none]) (st' := [.int (J 0), .ref a0]) (v1 := w2) (by decide +kernel) rfl trivial ?_
    exact sK_gm_correctionFor_21 N S w2 a0 b1 a0 (J 0)
def B_gm_valueWith : bd := (⟨"GateCounterModel", "valueWith", "(II)I"⟩, prog_8_method_100_code, 5, (some .int), [], 6, 2)
theorem m_gm_valueWith : mV B_gm_valueWith 6 2 := ⟨⟨⟨by decide +kernel, Or.inl rfl⟩, rfl, (List.mem_of_getElem? (i := 2087) (by decide +kernel)), by decide +kernel, (List.mem_of_getElem? (i := 104) (by decide +kernel)), ⟨by decide, by decide⟩, by decide⟩, rfl, (by unfold nar; decide +kernel), (List.mem_of_getElem? (i := 2085) (by decide +kernel)), rfl, (List.mem_of_getElem? (i := 2086) (by decide +kernel))⟩
noncomputable def K_gm_valueWith_28  (S : shp) (v : vl) (p0 : Nat) (p1 : Int32) (p2 : Int32) (s0 : Nat) (s1 : Int32) : Option (Int32 × vl) :=
  grd (kin S s0 = some (0, 6)) <| (F_gm_fails s0 s1 (J 2) S v).bind fun (x7, w8) => (if x7 = (J 0) then grd (kin S p0 = some (0, 6)) <| (F_gm_of p0 p1 (J 3) S w8).bind fun x10 => (F_gm_of p0 p1 (J 6) S w8).bind fun x11 => (F_gm_of p0 p1 (J 0) S w8).bind fun x12 => (if x12 = (J 1) then (F_gm_periodValue p0 x10 x11 p2 S w8).bind fun x13 => some ((x13, w8)) else (F_gm_gateValue p0 x10 x11 p2 S w8).bind fun x14 => some ((x14, w8))) else some (((J 0), w8)))
theorem sK_gm_valueWith_28   (S : shp) (v : vl) (p0 : Nat) (p1 : Int32) (p2 : Int32) (s0 : Nat) (s1 : Int32) : SimK B_gm_valueWith 28 [some (.ref p0), some (.int p1), some (.int p2), none, none] [.int s1, .ref s0] S v (K_gm_valueWith_28   S v p0 p1 p2 s0 s1) (ρpi S) := by
  unfold K_gm_valueWith_28
  refine sim_seg [(.iconst 2, 0, 0, 2)] [] (q := 29) (L' := [some (.ref p0), some (.int p1), some (.int p2), none, none]) (st' := [.int (J 2), .int s1, .ref s0]) (v1 := v) (by decide +kernel) rfl trivial ?_
  refine sim_grd fun h6 => ?_
  refine sc_pi (pc3 := 32) (cf_V (idx := 279) (ci := 6) [.int s1, .int (J 2)] m_gm_fails (by decide) ⟨by decide, by decide⟩ (List.mem_of_getElem? (i := 1827) (by decide +kernel)) rfl (Nat.le_of_ble_eq_true rfl) h6 (by decide +kernel) (Nat.le_of_ble_eq_true rfl) rfl) (ok_gm_fails s0 s1 (J 2) S v) rfl (fun x7 w8 => ?_)
  refine sim_eq0 (o := 5) (tg := 37) (f := 35) (by decide +kernel) rfl rfl (fun _ => ?_) (fun _ => ?_)
  · refine sim_seg [(.aload_n 0, 0, 0, 0), (.iload_n 1, 0, 0, 0), (.iconst 3, 0, 0, 3)] [] (q := 40) (L' := [some (.ref p0), some (.int p1), some (.int p2), none, none]) (st' := [.int (J 3), .int p1, .ref p0]) (v1 := w8) (by decide +kernel) rfl trivial ?_
    refine sim_grd fun h9 => ?_
    refine sc_ri (pc3 := 43) (cf_V (idx := 155) (ci := 6) [.int p1, .int (J 3)] m_gm_of (by decide) ⟨by decide, by decide⟩ (List.mem_of_getElem? (i := 1847) (by decide +kernel)) rfl (Nat.le_of_ble_eq_true rfl) h9 (by decide +kernel) (Nat.le_of_ble_eq_true rfl) rfl) (ok_gm_of p0 p1 (J 3) S w8) rfl (fun x10 => ?_)
    refine sim_seg [(.istore_n 3, 0, 0, 0)] [] (q := 44) (L' := [some (.ref p0), some (.int p1), some (.int p2), some (.int x10), none]) (st' := []) (v1 := w8) (by decide +kernel) rfl trivial ?_
    refine sim_seg [(.aload_n 0, 0, 0, 0), (.iload_n 1, 0, 0, 0), (.bipush 6, 0, 0, 6)] [] (q := 48) (L' := [some (.ref p0), some (.int p1), some (.int p2), some (.int x10), none]) (st' := [.int (J 6), .int p1, .ref p0]) (v1 := w8) (by decide +kernel) rfl trivial ?_
    refine sc_ri (pc3 := 51) (cf_V (idx := 155) (ci := 6) [.int p1, .int (J 6)] m_gm_of (by decide) ⟨by decide, by decide⟩ (List.mem_of_getElem? (i := 1847) (by decide +kernel)) rfl (Nat.le_of_ble_eq_true rfl) h9 (by decide +kernel) (Nat.le_of_ble_eq_true rfl) rfl) (ok_gm_of p0 p1 (J 6) S w8) rfl (fun x11 => ?_)
    refine sim_seg [(.istore 4, 0, 0, 0)] [] (q := 53) (L' := [some (.ref p0), some (.int p1), some (.int p2), some (.int x10), some (.int x11)]) (st' := []) (v1 := w8) (by decide +kernel) rfl trivial ?_
    refine sim_seg [(.aload_n 0, 0, 0, 0), (.iload_n 1, 0, 0, 0), (.iconst 0, 0, 0, 0)] [] (q := 56) (L' := [some (.ref p0), some (.int p1), some (.int p2), some (.int x10), some (.int x11)]) (st' := [.int (J 0), .int p1, .ref p0]) (v1 := w8) (by decide +kernel) rfl trivial ?_
    refine sc_ri (pc3 := 59) (cf_V (idx := 155) (ci := 6) [.int p1, .int (J 0)] m_gm_of (by decide) ⟨by decide, by decide⟩ (List.mem_of_getElem? (i := 1847) (by decide +kernel)) rfl (Nat.le_of_ble_eq_true rfl) h9 (by decide +kernel) (Nat.le_of_ble_eq_true rfl) rfl) (ok_gm_of p0 p1 (J 0) S w8) rfl (fun x12 => ?_)
    refine sim_seg [(.iconst 1, 0, 0, 1)] [] (q := 60) (L' := [some (.ref p0), some (.int p1), some (.int p2), some (.int x10), some (.int x11)]) (st' := [.int (J 1), .int x12]) (v1 := w8) (by decide +kernel) rfl trivial ?_
    refine sim_ne (o := 14) (tg := 74) (f := 63) (by decide +kernel) rfl rfl (fun _ => ?_) (fun _ => ?_)
    · refine sim_seg [(.aload_n 0, 0, 0, 0), (.iload_n 3, 0, 0, 0), (.iload 4, 0, 0, 0), (.iload_n 2, 0, 0, 0)] [] (q := 68) (L' := [some (.ref p0), some (.int p1), some (.int p2), some (.int x10), some (.int x11)]) (st' := [.int p2, .int x11, .int x10, .ref p0]) (v1 := w8) (by decide +kernel) rfl trivial ?_
      refine sc_ri (pc3 := 71) (cf_V (idx := 134) (ci := 6) [.int x10, .int x11, .int p2] m_gm_periodValue (by decide) ⟨by decide, by decide⟩ (List.mem_of_getElem? (i := 2016) (by decide +kernel)) rfl (Nat.le_of_ble_eq_true rfl) h9 (by decide +kernel) (Nat.le_of_ble_eq_true rfl) rfl) (ok_gm_periodValue p0 x10 x11 p2 S w8) rfl (fun x13 => ?_)
      refine sim_seg [(.goto 11, 0, 0, 0)] [] (q := 82) (L' := [some (.ref p0), some (.int p1), some (.int p2), some (.int x10), some (.int x11)]) (st' := [.int x13]) (v1 := w8) (by decide +kernel) rfl trivial ?_
      exact sim_iret (by decide +kernel) rfl rfl rfl
    · refine sim_seg [(.aload_n 0, 0, 0, 0), (.iload_n 3, 0, 0, 0), (.iload 4, 0, 0, 0), (.iload_n 2, 0, 0, 0)] [] (q := 79) (L' := [some (.ref p0), some (.int p1), some (.int p2), some (.int x10), some (.int x11)]) (st' := [.int p2, .int x11, .int x10, .ref p0]) (v1 := w8) (by decide +kernel) rfl trivial ?_
      refine sc_ri (pc3 := 82) (cf_V (idx := 138) (ci := 6) [.int x10, .int x11, .int p2] m_gm_gateValue (by decide) ⟨by decide, by decide⟩ (List.mem_of_getElem? (i := 2025) (by decide +kernel)) rfl (Nat.le_of_ble_eq_true rfl) h9 (by decide +kernel) (Nat.le_of_ble_eq_true rfl) rfl) (ok_gm_gateValue p0 x10 x11 p2 S w8) rfl (fun x14 => ?_)
      exact sim_iret (by decide +kernel) rfl rfl rfl
  · refine sim_seg [(.iconst 0, 0, 0, 0)] [] (q := 36) (L' := [some (.ref p0), some (.int p1), some (.int p2), none, none]) (st' := [.int (J 0)]) (v1 := w8) (by decide +kernel) rfl trivial ?_
    exact sim_iret (by decide +kernel) rfl rfl rfl
noncomputable def F_gm_valueWith (a0 : Nat) (b1 : Int32) (b2 : Int32) (S : shp) (v : vl) : Option (Int32 × vl) :=
  grd (kin S a0 = some (0, 6)) <| lt (si v a0 10 (J 0)) fun w2 => (F_gm_noMeasurement a0 b1 S w2).bind fun (x3, w4) => (if x3 = (J 0) then (F_gm_isUpTo b2 (J 99) S w4).bind fun x5 => (if x5 = (J 0) then K_gm_valueWith_28  S w4 a0 b1 b2 a0 (J 1) else K_gm_valueWith_28  S w4 a0 b1 b2 a0 (J 0)) else some (((J 0), w4)))
theorem ok_gm_valueWith (a0 : Nat) (b1 : Int32) (b2 : Int32) (S : shp) (v : vl) : SimK B_gm_valueWith 0 (entB (bN B_gm_valueWith) [.ref a0, .int b1, .int b2]) [] S v (F_gm_valueWith a0 b1 b2 S v) (ρpi S) := by
  show SimK B_gm_valueWith 0 [some (.ref a0), some (.int b1), some (.int b2), none, none] [] S v (F_gm_valueWith a0 b1 b2 S v) _
  unfold F_gm_valueWith
  refine sim_grd fun h1 => ?_
  refine sim_seg [(.aload_n 0, 0, 0, 0), (.iconst 0, 0, 0, 0), (.putfield 38, 6, 10, 0), (.aload_n 0, 0, 0, 0), (.iload_n 1, 0, 0, 0)] [] (q := 7) (L' := [some (.ref a0), some (.int b1), some (.int b2), none, none]) (st' := [.int b1, .ref a0]) (v1 := (si v a0 10 (J 0))) (by decide +kernel) rfl ⟨h1, trivial⟩ ?_
  refine sim_lt (x := (si v a0 10 (J 0))) ?_
  generalize (si v a0 10 (J 0)) = w2
  refine sc_pi (pc3 := 10) (cf_V (idx := 283) (ci := 6) [.int b1] m_gm_noMeasurement (by decide) ⟨by decide, by decide⟩ (List.mem_of_getElem? (i := 1843) (by decide +kernel)) rfl (Nat.le_of_ble_eq_true rfl) h1 (by decide +kernel) (Nat.le_of_ble_eq_true rfl) rfl) (ok_gm_noMeasurement a0 b1 S w2) rfl (fun x3 w4 => ?_)
  refine sim_ne0 (o := 25) (tg := 35) (f := 13) (by decide +kernel) rfl rfl (fun _ => ?_) (fun _ => ?_)
  · refine sim_seg [(.aload_n 0, 0, 0, 0), (.iload_n 2, 0, 0, 0), (.bipush 99, 0, 0, 99)] [] (q := 17) (L' := [some (.ref a0), some (.int b1), some (.int b2), none, none]) (st' := [.int (J 99), .int b2, .ref a0]) (v1 := w4) (by decide +kernel) rfl trivial ?_
    refine sc_ri (pc3 := 20) (cf_S (idx := 314) [.int b2, .int (J 99)] m_gm_isUpTo ⟨by decide, by decide⟩ (List.mem_of_getElem? (i := 1972) (by decide +kernel)) rfl (Nat.le_of_ble_eq_true rfl) (by decide +kernel) (Nat.le_of_ble_eq_true rfl) rfl) (ok_gm_isUpTo b2 (J 99) S w4) rfl (fun x5 => ?_)
    refine sim_ne0 (o := 7) (tg := 27) (f := 23) (by decide +kernel) rfl rfl (fun _ => ?_) (fun _ => ?_)
    · refine sim_seg [(.iconst 1, 0, 0, 1), (.goto 4, 0, 0, 0)] [] (q := 28) (L' := [some (.ref a0), some (.int b1), some (.int b2), none, none]) (st' := [.int (J 1), .ref a0]) (v1 := w4) (by decide +kernel) rfl trivial ?_
      exact sK_gm_valueWith_28 S w4 a0 b1 b2 a0 (J 1)
    · refine sim_seg [(.iconst 0, 0, 0, 0)] [] (q := 28) (L' := [some (.ref a0), some (.int b1), some (.int b2), none, none]) (st' := [.int (J 0), .ref a0]) (v1 := w4) (by decide +kernel) rfl trivial ?_
      exact sK_gm_valueWith_28 S w4 a0 b1 b2 a0 (J 0)
  · refine sim_seg [(.iconst 0, 0, 0, 0)] [] (q := 36) (L' := [some (.ref a0), some (.int b1), some (.int b2), none, none]) (st' := [.int (J 0)]) (v1 := w4) (by decide +kernel) rfl trivial ?_
    exact sim_iret (by decide +kernel) rfl rfl rfl
def B_gm_meanValue : bd := (⟨"GateCounterModel", "meanValue", "()D"⟩, prog_8_method_101_code, 4, (some .double), [], 6, 2)
theorem m_gm_meanValue : mV B_gm_meanValue 6 0 := ⟨⟨⟨by decide +kernel, Or.inl rfl⟩, rfl, (List.mem_of_getElem? (i := 2091) (by decide +kernel)), by decide +kernel, (List.mem_of_getElem? (i := 104) (by decide +kernel)), ⟨by decide, by decide⟩, by decide⟩, rfl, (by unfold nar; decide +kernel), (List.mem_of_getElem? (i := 2089) (by decide +kernel)), rfl, (List.mem_of_getElem? (i := 2090) (by decide +kernel))⟩
noncomputable def Y_gm_meanValue_9 (N : Nat)  (i9 : vl → Nat → Int64 → Int32 → Option (UInt64 × vl)) (S : shp) (v : vl) (p0 : Nat) (p1 : Int64) (p3 : Int32) : Option (UInt64 × vl) :=
  grd (kin S p0 = some (0, 6)) <| (gr S p0 0).bind fun r4 => grd (kin S r4 = some (1, 199)) <| (if p3 < (gi v r4 22) then (F_gm_of p0 p3 (J 4) S v).bind fun x7 => i9 v p0 (p1 + (Int32.toInt64 x7)) (p3 + (J 1)) else (if (gi v r4 22) = (J 0) then some ((FP.dconst0, v)) else grd (vf_n64 (FP.ddiv (FP.l2d p1) (FP.i2d (gi v r4 22)))) <| some (((FP.ddiv (FP.l2d p1) (FP.i2d (gi v r4 22))), v))))
noncomputable def K_gm_meanValue_9 (N : Nat)  (n : Nat) (S : shp) : vl → Nat → Int64 → Int32 → Option (UInt64 × vl) :=
  Nat.rec (motive := fun _ => vl → Nat → Int64 → Int32 → Option (UInt64 × vl)) (fun _ _ _ _ => none) (fun _ i => Y_gm_meanValue_9 N  i S) n
theorem sY_gm_meanValue_9 (N : Nat)  (i9 : vl → Nat → Int64 → Int32 → Option (UInt64 × vl)) (S : shp)  (j9 : ∀ (v : vl) (p0 : Nat) (p1 : Int64) (p3 : Int32), SimK B_gm_meanValue 9 [some (.ref p0), some (.long p1), none, some (.int p3)] [] S v (i9 v p0 p1 p3) (ρpd S)) (v : vl) (p0 : Nat) (p1 : Int64) (p3 : Int32) : SimK B_gm_meanValue 9 [some (.ref p0), some (.long p1), none, some (.int p3)] [] S v (Y_gm_meanValue_9 N  i9 S v p0 p1 p3) (ρpd S) := by
  unfold Y_gm_meanValue_9
  refine sim_grd fun h3 => ?_
  refine sim_bind fun r4 h5 => ?_
  refine sim_grd fun h6 => ?_
  refine sim_seg [(.iload_n 3, 0, 0, 0), (.aload_n 0, 0, 0, 0), (.getfield 7, 6, 0, 0), (.bipush 22, 0, 0, 22), (.iaload, 0, 0, 0)] [r4] (q := 17) (L' := [some (.ref p0), some (.long p1), none, some (.int p3)]) (st' := [.int (gi v r4 22), .int p3]) (v1 := v) (by decide +kernel) rfl ⟨⟨h3, h5⟩, ⟨(Or.inl (kin_alen h6)), (vin_J h6 (by unfold vp_in; decide))⟩, trivial⟩ ?_
  refine sim_ge (o := 19) (tg := 36) (f := 20) (by decide +kernel) rfl rfl (fun _ => ?_) (fun _ => ?_)
  · refine sim_seg [(.lload_n 1, 0, 0, 0), (.aload_n 0, 0, 0, 0), (.iload_n 3, 0, 0, 0), (.iconst 4, 0, 0, 4)] [] (q := 24) (L' := [some (.ref p0), some (.long p1), none, some (.int p3)]) (st' := [.int (J 4), .int p3, .ref p0, .long p1]) (v1 := v) (by decide +kernel) rfl trivial ?_
    refine sc_ri (pc3 := 27) (cf_V (idx := 155) (ci := 6) [.int p3, .int (J 4)] m_gm_of (by decide) ⟨by decide, by decide⟩ (List.mem_of_getElem? (i := 1847) (by decide +kernel)) rfl (Nat.le_of_ble_eq_true rfl) h3 (by decide +kernel) (Nat.le_of_ble_eq_true rfl) rfl) (ok_gm_of p0 p3 (J 4) S v) rfl (fun x7 => ?_)
    refine sim_seg [(.i2l, 0, 0, 0), (.ladd, 0, 0, 0), (.lstore_n 1, 0, 0, 0)] [] (q := 30) (L' := [some (.ref p0), some (.long (p1 + (Int32.toInt64 x7))), none, some (.int p3)]) (st' := []) (v1 := v) (by decide +kernel) rfl trivial ?_
    refine sim_seg [(.iinc 3 1, 0, 0, 1)] [] (q := 33) (L' := [some (.ref p0), some (.long (p1 + (Int32.toInt64 x7))), none, some (.int (p3 + (J 1)))]) (st' := []) (v1 := v) (by decide +kernel) rfl trivial ?_
    refine sim_seg [(.goto (-24), 0, 0, 0)] [] (q := 9) (L' := [some (.ref p0), some (.long (p1 + (Int32.toInt64 x7))), none, some (.int (p3 + (J 1)))]) (st' := []) (v1 := v) (by decide +kernel) rfl trivial ?_
    exact j9 v p0 (p1 + (Int32.toInt64 x7)) (p3 + (J 1))
  · refine sim_seg [(.aload_n 0, 0, 0, 0), (.getfield 7, 6, 0, 0), (.bipush 22, 0, 0, 22), (.iaload, 0, 0, 0)] [r4] (q := 43) (L' := [some (.ref p0), some (.long p1), none, some (.int p3)]) (st' := [.int (gi v r4 22)]) (v1 := v) (by decide +kernel) rfl ⟨⟨h3, h5⟩, ⟨(Or.inl (kin_alen h6)), (vin_J h6 (by unfold vp_in; decide))⟩, trivial⟩ ?_
    refine sim_ne0 (o := 7) (tg := 50) (f := 46) (by decide +kernel) rfl rfl (fun _ => ?_) (fun _ => ?_)
    · refine sim_seg [(.dconst 0, 0, 0, 0), (.goto 14, 0, 0, 0)] [] (q := 61) (L' := [some (.ref p0), some (.long p1), none, some (.int p3)]) (st' := [.double FP.dconst0]) (v1 := v) (by decide +kernel) rfl trivial ?_
      exact sim_dret (by decide +kernel) rfl rfl
    · refine sim_grd fun h8 => ?_
      refine sim_seg [(.lload_n 1, 0, 0, 0), (.l2d, 0, 0, 0), (.aload_n 0, 0, 0, 0), (.getfield 7, 6, 0, 0), (.bipush 22, 0, 0, 22), (.iaload, 0, 0, 0), (.i2d, 0, 0, 0), (.ddiv, 0, 0, 0)] [r4] (q := 61) (L' := [some (.ref p0), some (.long p1), none, some (.int p3)]) (st' := [.double (FP.ddiv (FP.l2d p1) (FP.i2d (gi v r4 22)))]) (v1 := v) (by decide +kernel) rfl ⟨⟨h3, h5⟩, ⟨(Or.inl (kin_alen h6)), (vin_J h6 (by unfold vp_in; decide))⟩, h8, trivial⟩ ?_
      exact sim_dret (by decide +kernel) rfl rfl
theorem sR_gm_meanValue_9 (N : Nat)  (S : shp)  (n : Nat) : ∀ (v : vl) (p0 : Nat) (p1 : Int64) (p3 : Int32), SimK B_gm_meanValue 9 [some (.ref p0), some (.long p1), none, some (.int p3)] [] S v (K_gm_meanValue_9 N  n S v p0 p1 p3) (ρpd S) := by
  induction n with
  | zero => intro v p0 p1 p3; exact sim_none
  | succ k ih => intro v p0 p1 p3; exact sY_gm_meanValue_9 N   _ S  ih v p0 p1 p3
theorem sK_gm_meanValue_9 (N : Nat)  (n : Nat) (S : shp) (v : vl) (p0 : Nat) (p1 : Int64) (p3 : Int32) : SimK B_gm_meanValue 9 [some (.ref p0), some (.long p1), none, some (.int p3)] [] S v (K_gm_meanValue_9 N  n S v p0 p1 p3) (ρpd S) := sR_gm_meanValue_9 N   S  n  v p0 p1 p3
noncomputable def F_gm_meanValue (N : Nat) (a0 : Nat) (S : shp) (v : vl) : Option (UInt64 × vl) :=
  grd (kin S a0 = some (0, 6)) <| lt (si v a0 10 (J 0)) fun w2 => K_gm_meanValue_9 N  N S w2 a0 (JL 0) (J 0)
theorem ok_gm_meanValue (N : Nat) (a0 : Nat) (S : shp) (v : vl) : SimK B_gm_meanValue 0 (entB (bN B_gm_meanValue) [.ref a0]) [] S v (F_gm_meanValue N a0 S v) (ρpd S) := by
  show SimK B_gm_meanValue 0 [some (.ref a0), none, none, none] [] S v (F_gm_meanValue N a0 S v) _
  unfold F_gm_meanValue
  refine sim_grd fun h1 => ?_
  refine sim_seg [(.aload_n 0, 0, 0, 0), (.iconst 0, 0, 0, 0), (.putfield 38, 6, 10, 0), (.lconst 0, 0, 0, 0), (.lstore_n 1, 0, 0, 0)] [] (q := 7) (L' := [some (.ref a0), some (.long (JL 0)), none, none]) (st' := []) (v1 := (si v a0 10 (J 0))) (by decide +kernel) rfl ⟨h1, trivial⟩ ?_
  refine sim_lt (x := (si v a0 10 (J 0))) ?_
  generalize (si v a0 10 (J 0)) = w2
  refine sim_seg [(.iconst 0, 0, 0, 0), (.istore_n 3, 0, 0, 0)] [] (q := 9) (L' := [some (.ref a0), some (.long (JL 0)), none, some (.int (J 0))]) (st' := []) (v1 := w2) (by decide +kernel) rfl trivial ?_
  exact sK_gm_meanValue_9 N N S w2 a0 (JL 0) (J 0)
def B_gm_aheadOf : bd := (⟨"GateCounterModel", "aheadOf", "(I)I"⟩, prog_8_method_102_code, 5, (some .int), [], 6, 2)
theorem m_gm_aheadOf : mV B_gm_aheadOf 6 1 := ⟨⟨⟨by decide +kernel, Or.inl rfl⟩, rfl, (List.mem_of_getElem? (i := 2099) (by decide +kernel)), by decide +kernel, (List.mem_of_getElem? (i := 104) (by decide +kernel)), ⟨by decide, by decide⟩, by decide⟩, rfl, (by unfold nar; decide +kernel), (List.mem_of_getElem? (i := 2098) (by decide +kernel)), rfl, (List.mem_of_getElem? (i := 83) (by decide +kernel))⟩
noncomputable def Y_gm_aheadOf_12 (N : Nat)  (i12 : Nat → Int32 → Int32 → Int32 → Int32 → Option Int32) (S : shp) (v : vl)  (p0 : Nat) (p1 : Int32) (p2 : Int32) (p3 : Int32) (p4 : Int32) : Option Int32 :=
  grd (kin S p0 = some (0, 6)) <| (gr S p0 0).bind fun r4 => grd (kin S r4 = some (1, 199)) <| (if p4 < (gi v r4 22) then (F_gm_of p0 p4 (J 4) S v).bind fun x7 => (if x7 < p3 then i12 p0 p1 (p2 + (J 1)) p3 (p4 + (J 1)) else (F_gm_of p0 p4 (J 4) S v).bind fun x8 => (if x8 = p3 then (if p4 < p1 then i12 p0 p1 (p2 + (J 1)) p3 (p4 + (J 1)) else i12 p0 p1 (p2 + (J 0)) p3 (p4 + (J 1))) else i12 p0 p1 (p2 + (J 0)) p3 (p4 + (J 1)))) else some (p2))
noncomputable def K_gm_aheadOf_12 (N : Nat)  (n : Nat) (S : shp) (v : vl) : Nat → Int32 → Int32 → Int32 → Int32 → Option Int32 :=
  Nat.rec (motive := fun _ => Nat → Int32 → Int32 → Int32 → Int32 → Option Int32) (fun _ _ _ _ _ => none) (fun _ i => Y_gm_aheadOf_12 N  i S v) n
theorem sY_gm_aheadOf_12 (N : Nat)  (i12 : Nat → Int32 → Int32 → Int32 → Int32 → Option Int32) (S : shp) (v : vl)  (j12 : ∀ (p0 : Nat) (p1 : Int32) (p2 : Int32) (p3 : Int32) (p4 : Int32), SimK B_gm_aheadOf 12 [some (.ref p0), some (.int p1), some (.int p2), some (.int p3), some (.int p4)] [] S v (i12 p0 p1 p2 p3 p4) (ρri S v))  (p0 : Nat) (p1 : Int32) (p2 : Int32) (p3 : Int32) (p4 : Int32) : SimK B_gm_aheadOf 12 [some (.ref p0), some (.int p1), some (.int p2), some (.int p3), some (.int p4)] [] S v (Y_gm_aheadOf_12 N  i12 S v  p0 p1 p2 p3 p4) (ρri S v) := by
  unfold Y_gm_aheadOf_12
  refine sim_grd fun h3 => ?_
  refine sim_bind fun r4 h5 => ?_
  refine sim_grd fun h6 => ?_
  refine sim_seg [(.iload 4, 0, 0, 0), (.aload_n 0, 0, 0, 0), (.getfield 7, 6, 0, 0), (.bipush 22, 0, 0, 22), (.iaload, 0, 0, 0)] [r4] (q := 21) (L' := [some (.ref p0), some (.int p1), some (.int p2), some (.int p3), some (.int p4)]) (st' := [.int (gi v r4 22), .int p4]) (v1 := v) (by decide +kernel) rfl ⟨⟨h3, h5⟩, ⟨(Or.inl (kin_alen h6)), (vin_J h6 (by unfold vp_in; decide))⟩, trivial⟩ ?_
  refine sim_ge (o := 45) (tg := 66) (f := 24) (by decide +kernel) rfl rfl (fun _ => ?_) (fun _ => ?_)
  · refine sim_seg [(.iload_n 2, 0, 0, 0), (.aload_n 0, 0, 0, 0), (.iload 4, 0, 0, 0), (.iconst 4, 0, 0, 4)] [] (q := 29) (L' := [some (.ref p0), some (.int p1), some (.int p2), some (.int p3), some (.int p4)]) (st' := [.int (J 4), .int p4, .ref p0, .int p2]) (v1 := v) (by decide +kernel) rfl trivial ?_
    refine sc_ri (pc3 := 32) (cf_V (idx := 155) (ci := 6) [.int p4, .int (J 4)] m_gm_of (by decide) ⟨by decide, by decide⟩ (List.mem_of_getElem? (i := 1847) (by decide +kernel)) rfl (Nat.le_of_ble_eq_true rfl) h3 (by decide +kernel) (Nat.le_of_ble_eq_true rfl) rfl) (ok_gm_of p0 p4 (J 4) S v) rfl (fun x7 => ?_)
    refine sim_seg [(.iload_n 3, 0, 0, 0)] [] (q := 33) (L' := [some (.ref p0), some (.int p1), some (.int p2), some (.int p3), some (.int p4)]) (st' := [.int p3, .int x7, .int p2]) (v1 := v) (by decide +kernel) rfl trivial ?_
    refine sim_lt' (o := 20) (tg := 53) (f := 36) (by decide +kernel) rfl rfl (fun _ => ?_) (fun _ => ?_)
    · refine sim_seg [(.iconst 1, 0, 0, 1), (.goto 4, 0, 0, 0), (.iadd, 0, 0, 0), (.istore_n 2, 0, 0, 0)] [] (q := 60) (L' := [some (.ref p0), some (.int p1), some (.int (p2 + (J 1))), some (.int p3), some (.int p4)]) (st' := []) (v1 := v) (by decide +kernel) rfl trivial ?_
      refine sim_seg [(.iinc 4 1, 0, 0, 1)] [] (q := 63) (L' := [some (.ref p0), some (.int p1), some (.int (p2 + (J 1))), some (.int p3), some (.int (p4 + (J 1)))]) (st' := []) (v1 := v) (by decide +kernel) rfl trivial ?_
      refine sim_seg [(.goto (-51), 0, 0, 0)] [] (q := 12) (L' := [some (.ref p0), some (.int p1), some (.int (p2 + (J 1))), some (.int p3), some (.int (p4 + (J 1)))]) (st' := []) (v1 := v) (by decide +kernel) rfl trivial ?_
      exact j12 p0 p1 (p2 + (J 1)) p3 (p4 + (J 1))
    · refine sim_seg [(.aload_n 0, 0, 0, 0), (.iload 4, 0, 0, 0), (.iconst 4, 0, 0, 4)] [] (q := 40) (L' := [some (.ref p0), some (.int p1), some (.int p2), some (.int p3), some (.int p4)]) (st' := [.int (J 4), .int p4, .ref p0, .int p2]) (v1 := v) (by decide +kernel) rfl trivial ?_
      refine sc_ri (pc3 := 43) (cf_V (idx := 155) (ci := 6) [.int p4, .int (J 4)] m_gm_of (by decide) ⟨by decide, by decide⟩ (List.mem_of_getElem? (i := 1847) (by decide +kernel)) rfl (Nat.le_of_ble_eq_true rfl) h3 (by decide +kernel) (Nat.le_of_ble_eq_true rfl) rfl) (ok_gm_of p0 p4 (J 4) S v) rfl (fun x8 => ?_)
      refine sim_seg [(.iload_n 3, 0, 0, 0)] [] (q := 44) (L' := [some (.ref p0), some (.int p1), some (.int p2), some (.int p3), some (.int p4)]) (st' := [.int p3, .int x8, .int p2]) (v1 := v) (by decide +kernel) rfl trivial ?_
      refine sim_ne (o := 13) (tg := 57) (f := 47) (by decide +kernel) rfl rfl (fun _ => ?_) (fun _ => ?_)
      · refine sim_seg [(.iload 4, 0, 0, 0), (.iload_n 1, 0, 0, 0)] [] (q := 50) (L' := [some (.ref p0), some (.int p1), some (.int p2), some (.int p3), some (.int p4)]) (st' := [.int p1, .int p4, .int p2]) (v1 := v) (by decide +kernel) rfl trivial ?_
        refine sim_ge (o := 7) (tg := 57) (f := 53) (by decide +kernel) rfl rfl (fun _ => ?_) (fun _ => ?_)
        · refine sim_seg [(.iconst 1, 0, 0, 1), (.goto 4, 0, 0, 0), (.iadd, 0, 0, 0), (.istore_n 2, 0, 0, 0)] [] (q := 60) (L' := [some (.ref p0), some (.int p1), some (.int (p2 + (J 1))), some (.int p3), some (.int p4)]) (st' := []) (v1 := v) (by decide +kernel) rfl trivial ?_
          refine sim_seg [(.iinc 4 1, 0, 0, 1)] [] (q := 63) (L' := [some (.ref p0), some (.int p1), some (.int (p2 + (J 1))), some (.int p3), some (.int (p4 + (J 1)))]) (st' := []) (v1 := v) (by decide +kernel) rfl trivial ?_
          refine sim_seg [(.goto (-51), 0, 0, 0)] [] (q := 12) (L' := [some (.ref p0), some (.int p1), some (.int (p2 + (J 1))), some (.int p3), some (.int (p4 + (J 1)))]) (st' := []) (v1 := v) (by decide +kernel) rfl trivial ?_
          exact j12 p0 p1 (p2 + (J 1)) p3 (p4 + (J 1))
        · refine sim_seg [(.iconst 0, 0, 0, 0), (.iadd, 0, 0, 0), (.istore_n 2, 0, 0, 0)] [] (q := 60) (L' := [some (.ref p0), some (.int p1), some (.int (p2 + (J 0))), some (.int p3), some (.int p4)]) (st' := []) (v1 := v) (by decide +kernel) rfl trivial ?_
          refine sim_seg [(.iinc 4 1, 0, 0, 1)] [] (q := 63) (L' := [some (.ref p0), some (.int p1), some (.int (p2 + (J 0))), some (.int p3), some (.int (p4 + (J 1)))]) (st' := []) (v1 := v) (by decide +kernel) rfl trivial ?_
          refine sim_seg [(.goto (-51), 0, 0, 0)] [] (q := 12) (L' := [some (.ref p0), some (.int p1), some (.int (p2 + (J 0))), some (.int p3), some (.int (p4 + (J 1)))]) (st' := []) (v1 := v) (by decide +kernel) rfl trivial ?_
          exact j12 p0 p1 (p2 + (J 0)) p3 (p4 + (J 1))
      · refine sim_seg [(.iconst 0, 0, 0, 0), (.iadd, 0, 0, 0), (.istore_n 2, 0, 0, 0)] [] (q := 60) (L' := [some (.ref p0), some (.int p1), some (.int (p2 + (J 0))), some (.int p3), some (.int p4)]) (st' := []) (v1 := v) (by decide +kernel) rfl trivial ?_
        refine sim_seg [(.iinc 4 1, 0, 0, 1)] [] (q := 63) (L' := [some (.ref p0), some (.int p1), some (.int (p2 + (J 0))), some (.int p3), some (.int (p4 + (J 1)))]) (st' := []) (v1 := v) (by decide +kernel) rfl trivial ?_
        refine sim_seg [(.goto (-51), 0, 0, 0)] [] (q := 12) (L' := [some (.ref p0), some (.int p1), some (.int (p2 + (J 0))), some (.int p3), some (.int (p4 + (J 1)))]) (st' := []) (v1 := v) (by decide +kernel) rfl trivial ?_
        exact j12 p0 p1 (p2 + (J 0)) p3 (p4 + (J 1))
  · refine sim_seg [(.iload_n 2, 0, 0, 0)] [] (q := 67) (L' := [some (.ref p0), some (.int p1), some (.int p2), some (.int p3), some (.int p4)]) (st' := [.int p2]) (v1 := v) (by decide +kernel) rfl trivial ?_
    exact sim_iret (by decide +kernel) rfl rfl rfl
theorem sR_gm_aheadOf_12 (N : Nat)  (S : shp) (v : vl)  (n : Nat) : ∀  (p0 : Nat) (p1 : Int32) (p2 : Int32) (p3 : Int32) (p4 : Int32), SimK B_gm_aheadOf 12 [some (.ref p0), some (.int p1), some (.int p2), some (.int p3), some (.int p4)] [] S v (K_gm_aheadOf_12 N  n S v  p0 p1 p2 p3 p4) (ρri S v) := by
  induction n with
  | zero => intro p0 p1 p2 p3 p4; exact sim_none
  | succ k ih => intro p0 p1 p2 p3 p4; exact sY_gm_aheadOf_12 N   _ S v  ih p0 p1 p2 p3 p4
theorem sK_gm_aheadOf_12 (N : Nat)  (n : Nat) (S : shp) (v : vl) (p0 : Nat) (p1 : Int32) (p2 : Int32) (p3 : Int32) (p4 : Int32) : SimK B_gm_aheadOf 12 [some (.ref p0), some (.int p1), some (.int p2), some (.int p3), some (.int p4)] [] S v (K_gm_aheadOf_12 N  n S v  p0 p1 p2 p3 p4) (ρri S v) := sR_gm_aheadOf_12 N   S v  n  p0 p1 p2 p3 p4
noncomputable def F_gm_aheadOf (N : Nat) (a0 : Nat) (b1 : Int32) (S : shp) (v : vl) : Option Int32 :=
  grd (kin S a0 = some (0, 6)) <| (F_gm_of a0 b1 (J 4) S v).bind fun x2 => K_gm_aheadOf_12 N  N S v a0 b1 (J 0) x2 (J 0)
theorem ok_gm_aheadOf (N : Nat) (a0 : Nat) (b1 : Int32) (S : shp) (v : vl) : SimK B_gm_aheadOf 0 (entB (bN B_gm_aheadOf) [.ref a0, .int b1]) [] S v (F_gm_aheadOf N a0 b1 S v) (ρri S v) := by
  show SimK B_gm_aheadOf 0 [some (.ref a0), some (.int b1), none, none, none] [] S v (F_gm_aheadOf N a0 b1 S v) _
  unfold F_gm_aheadOf
  refine sim_seg [(.iconst 0, 0, 0, 0), (.istore_n 2, 0, 0, 0)] [] (q := 2) (L' := [some (.ref a0), some (.int b1), some (.int (J 0)), none, none]) (st' := []) (v1 := v) (by decide +kernel) rfl trivial ?_
  refine sim_seg [(.aload_n 0, 0, 0, 0), (.iload_n 1, 0, 0, 0), (.iconst 4, 0, 0, 4)] [] (q := 5) (L' := [some (.ref a0), some (.int b1), some (.int (J 0)), none, none]) (st' := [.int (J 4), .int b1, .ref a0]) (v1 := v) (by decide +kernel) rfl trivial ?_
  refine sim_grd fun h1 => ?_
  refine sc_ri (pc3 := 8) (cf_V (idx := 155) (ci := 6) [.int b1, .int (J 4)] m_gm_of (by decide) ⟨by decide, by decide⟩ (List.mem_of_getElem? (i := 1847) (by decide +kernel)) rfl (Nat.le_of_ble_eq_true rfl) h1 (by decide +kernel) (Nat.le_of_ble_eq_true rfl) rfl) (ok_gm_of a0 b1 (J 4) S v) rfl (fun x2 => ?_)
  refine sim_seg [(.istore_n 3, 0, 0, 0)] [] (q := 9) (L' := [some (.ref a0), some (.int b1), some (.int (J 0)), some (.int x2), none]) (st' := []) (v1 := v) (by decide +kernel) rfl trivial ?_
  refine sim_seg [(.iconst 0, 0, 0, 0), (.istore 4, 0, 0, 0)] [] (q := 12) (L' := [some (.ref a0), some (.int b1), some (.int (J 0)), some (.int x2), some (.int (J 0))]) (st' := []) (v1 := v) (by decide +kernel) rfl trivial ?_
  exact sK_gm_aheadOf_12 N N S v a0 b1 (J 0) x2 (J 0)
def B_gm_median : bd := (⟨"GateCounterModel", "median", "()I"⟩, prog_8_method_103_code, 2, (some .int), [], 6, 3)
theorem m_gm_median : mV B_gm_median 6 0 := ⟨⟨⟨by decide +kernel, Or.inl rfl⟩, rfl, (List.mem_of_getElem? (i := 2095) (by decide +kernel)), by decide +kernel, (List.mem_of_getElem? (i := 104) (by decide +kernel)), ⟨by decide, by decide⟩, by decide⟩, rfl, (by unfold nar; decide +kernel), (List.mem_of_getElem? (i := 2093) (by decide +kernel)), rfl, (List.mem_of_getElem? (i := 2094) (by decide +kernel))⟩
noncomputable def Y_gm_median_7 (N : Nat)  (i7 : vl → Nat → Int32 → Option (Int32 × vl)) (S : shp) (v : vl) (p0 : Nat) (p1 : Int32) : Option (Int32 × vl) :=
  grd (kin S p0 = some (0, 6)) <| (gr S p0 0).bind fun r4 => grd (kin S r4 = some (1, 199)) <| (if p1 < (gi v r4 22) then (F_gm_aheadOf N p0 p1 S v).bind fun x7 => (if x7 = (((gi v r4 22) - (J 1)) / (J 2)) then (F_gm_of p0 p1 (J 4) S v).bind fun x8 => some ((x8, v)) else i7 v p0 (p1 + (J 1))) else some (((J (-1)), v)))
noncomputable def K_gm_median_7 (N : Nat)  (n : Nat) (S : shp) : vl → Nat → Int32 → Option (Int32 × vl) :=
  Nat.rec (motive := fun _ => vl → Nat → Int32 → Option (Int32 × vl)) (fun _ _ _ => none) (fun _ i => Y_gm_median_7 N  i S) n
theorem sY_gm_median_7 (N : Nat)  (i7 : vl → Nat → Int32 → Option (Int32 × vl)) (S : shp)  (j7 : ∀ (v : vl) (p0 : Nat) (p1 : Int32), SimK B_gm_median 7 [some (.ref p0), some (.int p1)] [] S v (i7 v p0 p1) (ρpi S)) (v : vl) (p0 : Nat) (p1 : Int32) : SimK B_gm_median 7 [some (.ref p0), some (.int p1)] [] S v (Y_gm_median_7 N  i7 S v p0 p1) (ρpi S) := by
  unfold Y_gm_median_7
  refine sim_grd fun h3 => ?_
  refine sim_bind fun r4 h5 => ?_
  refine sim_grd fun h6 => ?_
  refine sim_seg [(.iload_n 1, 0, 0, 0), (.aload_n 0, 0, 0, 0), (.getfield 7, 6, 0, 0), (.bipush 22, 0, 0, 22), (.iaload, 0, 0, 0)] [r4] (q := 15) (L' := [some (.ref p0), some (.int p1)]) (st' := [.int (gi v r4 22), .int p1]) (v1 := v) (by decide +kernel) rfl ⟨⟨h3, h5⟩, ⟨(Or.inl (kin_alen h6)), (vin_J h6 (by unfold vp_in; decide))⟩, trivial⟩ ?_
  refine sim_ge (o := 35) (tg := 50) (f := 18) (by decide +kernel) rfl rfl (fun _ => ?_) (fun _ => ?_)
  · refine sim_seg [(.aload_n 0, 0, 0, 0), (.iload_n 1, 0, 0, 0)] [] (q := 20) (L' := [some (.ref p0), some (.int p1)]) (st' := [.int p1, .ref p0]) (v1 := v) (by decide +kernel) rfl trivial ?_
    refine sc_ri (pc3 := 23) (cf_V (idx := 334) (ci := 6) [.int p1] m_gm_aheadOf (by decide) ⟨by decide, by decide⟩ (List.mem_of_getElem? (i := 2096) (by decide +kernel)) rfl (Nat.le_of_ble_eq_true rfl) h3 (by decide +kernel) (Nat.le_of_ble_eq_true rfl) rfl) (ok_gm_aheadOf N p0 p1 S v) rfl (fun x7 => ?_)
    refine sim_seg [(.aload_n 0, 0, 0, 0), (.getfield 7, 6, 0, 0), (.bipush 22, 0, 0, 22), (.iaload, 0, 0, 0), (.iconst 1, 0, 0, 1), (.isub, 0, 0, 0), (.iconst 2, 0, 0, 2), (.idiv, 0, 0, 0)] [r4] (q := 34) (L' := [some (.ref p0), some (.int p1)]) (st' := [.int (((gi v r4 22) - (J 1)) / (J 2)), .int x7]) (v1 := v) (by decide +kernel) rfl ⟨⟨h3, h5⟩, ⟨(Or.inl (kin_alen h6)), (vin_J h6 (by unfold vp_in; decide))⟩, (by decide), trivial⟩ ?_
    refine sim_ne (o := 10) (tg := 44) (f := 37) (by decide +kernel) rfl rfl (fun _ => ?_) (fun _ => ?_)
    · refine sim_seg [(.aload_n 0, 0, 0, 0), (.iload_n 1, 0, 0, 0), (.iconst 4, 0, 0, 4)] [] (q := 40) (L' := [some (.ref p0), some (.int p1)]) (st' := [.int (J 4), .int p1, .ref p0]) (v1 := v) (by decide +kernel) rfl trivial ?_
      refine sc_ri (pc3 := 43) (cf_V (idx := 155) (ci := 6) [.int p1, .int (J 4)] m_gm_of (by decide) ⟨by decide, by decide⟩ (List.mem_of_getElem? (i := 1847) (by decide +kernel)) rfl (Nat.le_of_ble_eq_true rfl) h3 (by decide +kernel) (Nat.le_of_ble_eq_true rfl) rfl) (ok_gm_of p0 p1 (J 4) S v) rfl (fun x8 => ?_)
      exact sim_iret (by decide +kernel) rfl rfl rfl
    · refine sim_seg [(.iinc 1 1, 0, 0, 1)] [] (q := 47) (L' := [some (.ref p0), some (.int (p1 + (J 1)))]) (st' := []) (v1 := v) (by decide +kernel) rfl trivial ?_
      refine sim_seg [(.goto (-40), 0, 0, 0)] [] (q := 7) (L' := [some (.ref p0), some (.int (p1 + (J 1)))]) (st' := []) (v1 := v) (by decide +kernel) rfl trivial ?_
      exact j7 v p0 (p1 + (J 1))
  · refine sim_seg [(.iconst (-1), 0, 0, (-1))] [] (q := 51) (L' := [some (.ref p0), some (.int p1)]) (st' := [.int (J (-1))]) (v1 := v) (by decide +kernel) rfl trivial ?_
    exact sim_iret (by decide +kernel) rfl rfl rfl
theorem sR_gm_median_7 (N : Nat)  (S : shp)  (n : Nat) : ∀ (v : vl) (p0 : Nat) (p1 : Int32), SimK B_gm_median 7 [some (.ref p0), some (.int p1)] [] S v (K_gm_median_7 N  n S v p0 p1) (ρpi S) := by
  induction n with
  | zero => intro v p0 p1; exact sim_none
  | succ k ih => intro v p0 p1; exact sY_gm_median_7 N   _ S  ih v p0 p1
theorem sK_gm_median_7 (N : Nat)  (n : Nat) (S : shp) (v : vl) (p0 : Nat) (p1 : Int32) : SimK B_gm_median 7 [some (.ref p0), some (.int p1)] [] S v (K_gm_median_7 N  n S v p0 p1) (ρpi S) := sR_gm_median_7 N   S  n  v p0 p1
noncomputable def F_gm_median (N : Nat) (a0 : Nat) (S : shp) (v : vl) : Option (Int32 × vl) :=
  grd (kin S a0 = some (0, 6)) <| lt (si v a0 10 (J 0)) fun w2 => K_gm_median_7 N  N S w2 a0 (J 0)
theorem ok_gm_median (N : Nat) (a0 : Nat) (S : shp) (v : vl) : SimK B_gm_median 0 (entB (bN B_gm_median) [.ref a0]) [] S v (F_gm_median N a0 S v) (ρpi S) := by
  show SimK B_gm_median 0 [some (.ref a0), none] [] S v (F_gm_median N a0 S v) _
  unfold F_gm_median
  refine sim_grd fun h1 => ?_
  refine sim_seg [(.aload_n 0, 0, 0, 0), (.iconst 0, 0, 0, 0), (.putfield 38, 6, 10, 0), (.iconst 0, 0, 0, 0), (.istore_n 1, 0, 0, 0)] [] (q := 7) (L' := [some (.ref a0), some (.int (J 0))]) (st' := []) (v1 := (si v a0 10 (J 0))) (by decide +kernel) rfl ⟨h1, trivial⟩ ?_
  refine sim_lt (x := (si v a0 10 (J 0))) ?_
  generalize (si v a0 10 (J 0)) = w2
  exact sK_gm_median_7 N N S w2 a0 (J 0)
def B_gm_tickShare : bd := (⟨"GateCounterModel", "tickShare", "()F"⟩, prog_8_method_104_code, 1, (some .float), [], 6, 0)
theorem m_gm_tickShare : mV B_gm_tickShare 6 0 := ⟨⟨⟨by decide +kernel, Or.inl rfl⟩, rfl, (List.mem_of_getElem? (i := 2103) (by decide +kernel)), by decide +kernel, (List.mem_of_getElem? (i := 104) (by decide +kernel)), ⟨by decide, by decide⟩, by decide⟩, rfl, (by unfold nar; decide +kernel), (List.mem_of_getElem? (i := 2101) (by decide +kernel)), rfl, (List.mem_of_getElem? (i := 2102) (by decide +kernel))⟩
noncomputable def F_gm_tickShare (a0 : Nat) (S : shp) (v : vl) : Option (UInt32 × vl) :=
  grd (kin S a0 = some (0, 6)) <| lt (si v a0 10 (J 0)) fun w2 => (gr S a0 0).bind fun r3 => grd (kin S r3 = some (1, 199)) <| (if (gi w2 r3 11) = (J 0) then some ((FP.fconst0, w2)) else grd (vf_n32 (FP.fdiv (FP.i2f (gi w2 r3 10)) (FP.i2f (gi w2 r3 11)))) <| some (((FP.fdiv (FP.i2f (gi w2 r3 10)) (FP.i2f (gi w2 r3 11))), w2)))
theorem ok_gm_tickShare (a0 : Nat) (S : shp) (v : vl) : SimK B_gm_tickShare 0 (entB (bN B_gm_tickShare) [.ref a0]) [] S v (F_gm_tickShare a0 S v) (ρpf S) := by
  show SimK B_gm_tickShare 0 [some (.ref a0)] [] S v (F_gm_tickShare a0 S v) _
  unfold F_gm_tickShare
  refine sim_grd fun h1 => ?_
  refine sim_seg [(.aload_n 0, 0, 0, 0), (.iconst 0, 0, 0, 0), (.putfield 38, 6, 10, 0), (.aload_n 0, 0, 0, 0)] [] (q := 6) (L' := [some (.ref a0)]) (st' := [.ref a0]) (v1 := (si v a0 10 (J 0))) (by decide +kernel) rfl ⟨h1, trivial⟩ ?_
  refine sim_lt (x := (si v a0 10 (J 0))) ?_
  generalize (si v a0 10 (J 0)) = w2
  refine sim_bind fun r3 h4 => ?_
  refine sim_grd fun h5 => ?_
  refine sim_seg [(.getfield 7, 6, 0, 0), (.bipush 11, 0, 0, 11), (.iaload, 0, 0, 0)] [r3] (q := 12) (L' := [some (.ref a0)]) (st' := [.int (gi w2 r3 11)]) (v1 := w2) (by decide +kernel) rfl ⟨⟨h1, h4⟩, ⟨(Or.inl (kin_alen h5)), (vin_J h5 (by unfold vp_in; decide))⟩, trivial⟩ ?_
  refine sim_ne0 (o := 7) (tg := 19) (f := 15) (by decide +kernel) rfl rfl (fun _ => ?_) (fun _ => ?_)
  · refine sim_seg [(.fconst 0, 0, 0, 0), (.goto 20, 0, 0, 0)] [] (q := 36) (L' := [some (.ref a0)]) (st' := [.float FP.fconst0]) (v1 := w2) (by decide +kernel) rfl trivial ?_
    exact sim_fret (by decide +kernel) rfl rfl
  · refine sim_grd fun h6 => ?_
    refine sim_seg [(.aload_n 0, 0, 0, 0), (.getfield 7, 6, 0, 0), (.bipush 10, 0, 0, 10), (.iaload, 0, 0, 0), (.i2f, 0, 0, 0), (.aload_n 0, 0, 0, 0), (.getfield 7, 6, 0, 0), (.bipush 11, 0, 0, 11), (.iaload, 0, 0, 0), (.i2f, 0, 0, 0), (.fdiv, 0, 0, 0)] [r3, r3] (q := 36) (L' := [some (.ref a0)]) (st' := [.float (FP.fdiv (FP.i2f (gi w2 r3 10)) (FP.i2f (gi w2 r3 11)))]) (v1 := w2) (by decide +kernel) rfl ⟨⟨h1, h4⟩, ⟨(Or.inl (kin_alen h5)), (vin_J h5 (by unfold vp_in; decide))⟩, ⟨h1, h4⟩, ⟨(Or.inl (kin_alen h5)), (vin_J h5 (by unfold vp_in; decide))⟩, h6, trivial⟩ ?_
    exact sim_fret (by decide +kernel) rfl rfl
def B_gm_spread : bd := (⟨"GateCounterModel", "spread", "()I"⟩, prog_8_method_105_code, 4, (some .int), [], 6, 2)
theorem m_gm_spread : mV B_gm_spread 6 0 := ⟨⟨⟨by decide +kernel, Or.inl rfl⟩, rfl, (List.mem_of_getElem? (i := 2107) (by decide +kernel)), by decide +kernel, (List.mem_of_getElem? (i := 104) (by decide +kernel)), ⟨by decide, by decide⟩, by decide⟩, rfl, (by unfold nar; decide +kernel), (List.mem_of_getElem? (i := 2105) (by decide +kernel)), rfl, (List.mem_of_getElem? (i := 2106) (by decide +kernel))⟩
noncomputable def Y_gm_spread_28 (N : Nat)  (i28 : vl → Nat → Int32 → Int32 → Int32 → Option (Int32 × vl)) (S : shp) (v : vl) (p0 : Nat) (p1 : Int32) (p2 : Int32) (p3 : Int32) : Option (Int32 × vl) :=
  grd (kin S p0 = some (0, 6)) <| (gr S p0 0).bind fun r8 => grd (kin S r8 = some (1, 199)) <| (if p3 < (gi v r8 22) then (F_gm_of p0 p3 (J 4) S v).bind fun x11 => (F_ma_min p1 x11 S v).bind fun x12 => (F_gm_of p0 p3 (J 4) S v).bind fun x13 => (F_ma_max p2 x13 S v).bind fun x14 => i28 v p0 x12 x14 (p3 + (J 1)) else some (((p2 - p1), v)))
noncomputable def K_gm_spread_28 (N : Nat)  (n : Nat) (S : shp) : vl → Nat → Int32 → Int32 → Int32 → Option (Int32 × vl) :=
  Nat.rec (motive := fun _ => vl → Nat → Int32 → Int32 → Int32 → Option (Int32 × vl)) (fun _ _ _ _ _ => none) (fun _ i => Y_gm_spread_28 N  i S) n
theorem sY_gm_spread_28 (N : Nat)  (i28 : vl → Nat → Int32 → Int32 → Int32 → Option (Int32 × vl)) (S : shp)  (j28 : ∀ (v : vl) (p0 : Nat) (p1 : Int32) (p2 : Int32) (p3 : Int32), SimK B_gm_spread 28 [some (.ref p0), some (.int p1), some (.int p2), some (.int p3)] [] S v (i28 v p0 p1 p2 p3) (ρpi S)) (v : vl) (p0 : Nat) (p1 : Int32) (p2 : Int32) (p3 : Int32) : SimK B_gm_spread 28 [some (.ref p0), some (.int p1), some (.int p2), some (.int p3)] [] S v (Y_gm_spread_28 N  i28 S v p0 p1 p2 p3) (ρpi S) := by
  unfold Y_gm_spread_28
  refine sim_grd fun h7 => ?_
  refine sim_bind fun r8 h9 => ?_
  refine sim_grd fun h10 => ?_
  refine sim_seg [(.iload_n 3, 0, 0, 0), (.aload_n 0, 0, 0, 0), (.getfield 7, 6, 0, 0), (.bipush 22, 0, 0, 22), (.iaload, 0, 0, 0)] [r8] (q := 36) (L' := [some (.ref p0), some (.int p1), some (.int p2), some (.int p3)]) (st' := [.int (gi v r8 22), .int p3]) (v1 := v) (by decide +kernel) rfl ⟨⟨h7, h9⟩, ⟨(Or.inl (kin_alen h10)), (vin_J h10 (by unfold vp_in; decide))⟩, trivial⟩ ?_
  refine sim_ge (o := 31) (tg := 67) (f := 39) (by decide +kernel) rfl rfl (fun _ => ?_) (fun _ => ?_)
  · refine sim_seg [(.iload_n 1, 0, 0, 0), (.aload_n 0, 0, 0, 0), (.iload_n 3, 0, 0, 0), (.iconst 4, 0, 0, 4)] [] (q := 43) (L' := [some (.ref p0), some (.int p1), some (.int p2), some (.int p3)]) (st' := [.int (J 4), .int p3, .ref p0, .int p1]) (v1 := v) (by decide +kernel) rfl trivial ?_
    refine sc_ri (pc3 := 46) (cf_V (idx := 155) (ci := 6) [.int p3, .int (J 4)] m_gm_of (by decide) ⟨by decide, by decide⟩ (List.mem_of_getElem? (i := 1847) (by decide +kernel)) rfl (Nat.le_of_ble_eq_true rfl) h7 (by decide +kernel) (Nat.le_of_ble_eq_true rfl) rfl) (ok_gm_of p0 p3 (J 4) S v) rfl (fun x11 => ?_)
    refine sc_ri (pc3 := 49) (cf_S (idx := 60) [.int p1, .int x11] m_ma_min ⟨by decide, by decide⟩ (List.mem_of_getElem? (i := 1916) (by decide +kernel)) rfl (Nat.le_of_ble_eq_true rfl) (by decide +kernel) (Nat.le_of_ble_eq_true rfl) rfl) (ok_ma_min p1 x11 S v) rfl (fun x12 => ?_)
    refine sim_seg [(.istore_n 1, 0, 0, 0)] [] (q := 50) (L' := [some (.ref p0), some (.int x12), some (.int p2), some (.int p3)]) (st' := []) (v1 := v) (by decide +kernel) rfl trivial ?_
    refine sim_seg [(.iload_n 2, 0, 0, 0), (.aload_n 0, 0, 0, 0), (.iload_n 3, 0, 0, 0), (.iconst 4, 0, 0, 4)] [] (q := 54) (L' := [some (.ref p0), some (.int x12), some (.int p2), some (.int p3)]) (st' := [.int (J 4), .int p3, .ref p0, .int p2]) (v1 := v) (by decide +kernel) rfl trivial ?_
    refine sc_ri (pc3 := 57) (cf_V (idx := 155) (ci := 6) [.int p3, .int (J 4)] m_gm_of (by decide) ⟨by decide, by decide⟩ (List.mem_of_getElem? (i := 1847) (by decide +kernel)) rfl (Nat.le_of_ble_eq_true rfl) h7 (by decide +kernel) (Nat.le_of_ble_eq_true rfl) rfl) (ok_gm_of p0 p3 (J 4) S v) rfl (fun x13 => ?_)
    refine sc_ri (pc3 := 60) (cf_S (idx := 66) [.int p2, .int x13] m_ma_max ⟨by decide, by decide⟩ (List.mem_of_getElem? (i := 1917) (by decide +kernel)) rfl (Nat.le_of_ble_eq_true rfl) (by decide +kernel) (Nat.le_of_ble_eq_true rfl) rfl) (ok_ma_max p2 x13 S v) rfl (fun x14 => ?_)
    refine sim_seg [(.istore_n 2, 0, 0, 0)] [] (q := 61) (L' := [some (.ref p0), some (.int x12), some (.int x14), some (.int p3)]) (st' := []) (v1 := v) (by decide +kernel) rfl trivial ?_
    refine sim_seg [(.iinc 3 1, 0, 0, 1)] [] (q := 64) (L' := [some (.ref p0), some (.int x12), some (.int x14), some (.int (p3 + (J 1)))]) (st' := []) (v1 := v) (by decide +kernel) rfl trivial ?_
    refine sim_seg [(.goto (-36), 0, 0, 0)] [] (q := 28) (L' := [some (.ref p0), some (.int x12), some (.int x14), some (.int (p3 + (J 1)))]) (st' := []) (v1 := v) (by decide +kernel) rfl trivial ?_
    exact j28 v p0 x12 x14 (p3 + (J 1))
  · refine sim_seg [(.iload_n 2, 0, 0, 0), (.iload_n 1, 0, 0, 0), (.isub, 0, 0, 0)] [] (q := 70) (L' := [some (.ref p0), some (.int p1), some (.int p2), some (.int p3)]) (st' := [.int (p2 - p1)]) (v1 := v) (by decide +kernel) rfl trivial ?_
    exact sim_iret (by decide +kernel) rfl rfl rfl
theorem sR_gm_spread_28 (N : Nat)  (S : shp)  (n : Nat) : ∀ (v : vl) (p0 : Nat) (p1 : Int32) (p2 : Int32) (p3 : Int32), SimK B_gm_spread 28 [some (.ref p0), some (.int p1), some (.int p2), some (.int p3)] [] S v (K_gm_spread_28 N  n S v p0 p1 p2 p3) (ρpi S) := by
  induction n with
  | zero => intro v p0 p1 p2 p3; exact sim_none
  | succ k ih => intro v p0 p1 p2 p3; exact sY_gm_spread_28 N   _ S  ih v p0 p1 p2 p3
theorem sK_gm_spread_28 (N : Nat)  (n : Nat) (S : shp) (v : vl) (p0 : Nat) (p1 : Int32) (p2 : Int32) (p3 : Int32) : SimK B_gm_spread 28 [some (.ref p0), some (.int p1), some (.int p2), some (.int p3)] [] S v (K_gm_spread_28 N  n S v p0 p1 p2 p3) (ρpi S) := sR_gm_spread_28 N   S  n  v p0 p1 p2 p3
noncomputable def F_gm_spread (N : Nat) (a0 : Nat) (S : shp) (v : vl) : Option (Int32 × vl) :=
  grd (kin S a0 = some (0, 6)) <| lt (si v a0 10 (J 0)) fun w2 => (gr S a0 0).bind fun r3 => grd (kin S r3 = some (1, 199)) <| (if (gi w2 r3 22) = (J 0) then some (((J 0), w2)) else (F_gm_of a0 (J 0) (J 4) S w2).bind fun x6 => K_gm_spread_28 N  N S w2 a0 x6 x6 (J 1))
theorem ok_gm_spread (N : Nat) (a0 : Nat) (S : shp) (v : vl) : SimK B_gm_spread 0 (entB (bN B_gm_spread) [.ref a0]) [] S v (F_gm_spread N a0 S v) (ρpi S) := by
  show SimK B_gm_spread 0 [some (.ref a0), none, none, none] [] S v (F_gm_spread N a0 S v) _
  unfold F_gm_spread
  refine sim_grd fun h1 => ?_
  refine sim_seg [(.aload_n 0, 0, 0, 0), (.iconst 0, 0, 0, 0), (.putfield 38, 6, 10, 0), (.aload_n 0, 0, 0, 0)] [] (q := 6) (L' := [some (.ref a0), none, none, none]) (st' := [.ref a0]) (v1 := (si v a0 10 (J 0))) (by decide +kernel) rfl ⟨h1, trivial⟩ ?_
  refine sim_lt (x := (si v a0 10 (J 0))) ?_
  generalize (si v a0 10 (J 0)) = w2
  refine sim_bind fun r3 h4 => ?_
  refine sim_grd fun h5 => ?_
  refine sim_seg [(.getfield 7, 6, 0, 0), (.bipush 22, 0, 0, 22), (.iaload, 0, 0, 0)] [r3] (q := 12) (L' := [some (.ref a0), none, none, none]) (st' := [.int (gi w2 r3 22)]) (v1 := w2) (by decide +kernel) rfl ⟨⟨h1, h4⟩, ⟨(Or.inl (kin_alen h5)), (vin_J h5 (by unfold vp_in; decide))⟩, trivial⟩ ?_
  refine sim_ne0 (o := 5) (tg := 17) (f := 15) (by decide +kernel) rfl rfl (fun _ => ?_) (fun _ => ?_)
  · refine sim_seg [(.iconst 0, 0, 0, 0)] [] (q := 16) (L' := [some (.ref a0), none, none, none]) (st' := [.int (J 0)]) (v1 := w2) (by decide +kernel) rfl trivial ?_
    exact sim_iret (by decide +kernel) rfl rfl rfl
  · refine sim_seg [(.aload_n 0, 0, 0, 0), (.iconst 0, 0, 0, 0), (.iconst 4, 0, 0, 4)] [] (q := 20) (L' := [some (.ref a0), none, none, none]) (st' := [.int (J 4), .int (J 0), .ref a0]) (v1 := w2) (by decide +kernel) rfl trivial ?_
    refine sc_ri (pc3 := 23) (cf_V (idx := 155) (ci := 6) [.int (J 0), .int (J 4)] m_gm_of (by decide) ⟨by decide, by decide⟩ (List.mem_of_getElem? (i := 1847) (by decide +kernel)) rfl (Nat.le_of_ble_eq_true rfl) h1 (by decide +kernel) (Nat.le_of_ble_eq_true rfl) rfl) (ok_gm_of a0 (J 0) (J 4) S w2) rfl (fun x6 => ?_)
    refine sim_seg [(.istore_n 1, 0, 0, 0)] [] (q := 24) (L' := [some (.ref a0), some (.int x6), none, none]) (st' := []) (v1 := w2) (by decide +kernel) rfl trivial ?_
    refine sim_seg [(.iload_n 1, 0, 0, 0), (.istore_n 2, 0, 0, 0)] [] (q := 26) (L' := [some (.ref a0), some (.int x6), some (.int x6), none]) (st' := []) (v1 := w2) (by decide +kernel) rfl trivial ?_
    refine sim_seg [(.iconst 1, 0, 0, 1), (.istore_n 3, 0, 0, 0)] [] (q := 28) (L' := [some (.ref a0), some (.int x6), some (.int x6), some (.int (J 1))]) (st' := []) (v1 := w2) (by decide +kernel) rfl trivial ?_
    exact sK_gm_spread_28 N N S w2 a0 x6 x6 (J 1)
