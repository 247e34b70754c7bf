/-! Methods: tx_readClock, tx_readGate, tx_readPeriods, gc_isPrescale, tx_readPrescale, sg_append, sg_lastTime, tx_readSignal, tx_readStatement, tx_read, ck_copyFrom, sg_copyFrom, st_copyFrom, gc_loadCounter, tx_append, gc_appendInput, gc_truncateInput. -/
def B_tx_readClock : bd := (⟨"GateCounter$SetupText", "readClock", "()Z"⟩, prog_4_method_4_code, 4, (some .boolean), [], 2, 5)
theorem m_tx_readClock : mV B_tx_readClock 2 0 := ⟨⟨⟨by decide +kernel, Or.inl rfl⟩, rfl, (List.mem_of_getElem? (i := 439) (by decide +kernel)), by decide +kernel, (List.mem_of_getElem? (i := 58) (by decide +kernel)), ⟨by decide, by decide⟩, by decide⟩, rfl, (by unfold nar; decide +kernel), (List.mem_of_getElem? (i := 438) (by decide +kernel)), rfl, (List.mem_of_getElem? (i := 8) (by decide +kernel))⟩
noncomputable def K_tx_readClock_52 (N : Nat)  (S : shp) (v : vl) (p0 : Nat) (p1 : Int32) (p2 : Int32) (p3 : Int32) : Option (Int32 × vl) :=
  grd (kin S p0 = some (0, 2)) <| (F_tx_isWord N p0 (kad S 12) S v).bind fun x7 => (if x7 = (J 0) then (gr S p0 4).bind fun r8 => grd (kin S r8 = some (0, 4)) <| (gr S r8 6).bind fun r11 => grd (kin S r11 = some (0, 0)) <| (F_ck_start r11 p1 p2 p3 S v).bind fun w14 => (F_tx_takeSemicolon N p0 S w14).bind fun (x15, w16) => grd (narrow .boolean (.int x15) = .int x15) <| some ((x15, w16)) else (F_tx_takeSigned N p0 (J 1) S v).bind fun (x18, w19) => (if x18 = (J 0) then some (((J 0), w19)) else (gr S p0 4).bind fun r20 => grd (kin S r20 = some (0, 4)) <| (gr S r20 6).bind fun r23 => grd (kin S r23 = some (0, 0)) <| (F_ck_start r23 p1 p2 (gi w19 p0 12) S w19).bind fun w26 => (F_tx_takeSemicolon N p0 S w26).bind fun (x27, w28) => grd (narrow .boolean (.int x27) = .int x27) <| some ((x27, w28))))
theorem sK_tx_readClock_52 (N : Nat)   (S : shp) (v : vl) (p0 : Nat) (p1 : Int32) (p2 : Int32) (p3 : Int32) : SimK B_tx_readClock 52 [some (.ref p0), some (.int p1), some (.int p2), some (.int p3)] [] S v (K_tx_readClock_52 N  S v p0 p1 p2 p3) (ρpi S) := by
  unfold K_tx_readClock_52
  refine sim_seg [(.aload_n 0, 0, 0, 0)] [] (q := 53) (L' := [some (.ref p0), some (.int p1), some (.int p2), some (.int p3)]) (st' := [.ref p0]) (v1 := v) (by decide +kernel) rfl trivial ?_
  refine sim_ldcs (idx := 83) (j := 12) (tx := "age") (pc3 := 55) (by decide +kernel) (by decide +kernel) rfl ?_
  refine sim_grd fun h6 => ?_
  refine sc_ri (pc3 := 58) (cf_V (idx := 53) (ci := 2) [.ref (kad S 12)] m_tx_isWord (by decide) ⟨by decide, by decide⟩ (List.mem_of_getElem? (i := 385) (by decide +kernel)) rfl (Nat.le_of_ble_eq_true rfl) h6 (by decide +kernel) (Nat.le_of_ble_eq_true rfl) rfl) (ok_tx_isWord N p0 (kad S 12) S v) rfl (fun x7 => ?_)
  refine sim_eq0 (o := 18) (tg := 76) (f := 61) (by decide +kernel) rfl rfl (fun _ => ?_) (fun _ => ?_)
  · refine sim_bind fun r8 h9 => ?_
    refine sim_grd fun h10 => ?_
    refine sim_bind fun r11 h12 => ?_
    refine sim_seg [(.aload_n 0, 0, 0, 0), (.getfield 18, 2, 4, 0), (.getfield 85, 4, 6, 0), (.iload_n 1, 0, 0, 0), (.iload_n 2, 0, 0, 0), (.iload_n 3, 0, 0, 0)] [r8, r11] (q := 86) (L' := [some (.ref p0), some (.int p1), some (.int p2), some (.int p3)]) (st' := [.int p3, .int p2, .int p1, .ref r11]) (v1 := v) (by decide +kernel) rfl ⟨⟨h6, h9⟩, ⟨h10, h12⟩, trivial⟩ ?_
    refine sim_grd fun h13 => ?_
    refine sc_pv (pc3 := 89) (cf_V (idx := 88) (ci := 0) [.int p1, .int p2, .int p3] m_ck_start (by decide) ⟨by decide, by decide⟩ (List.mem_of_getElem? (i := 454) (by decide +kernel)) rfl (Nat.le_of_ble_eq_true rfl) h13 (by decide +kernel) (Nat.le_of_ble_eq_true rfl) rfl) (ok_ck_start r11 p1 p2 p3 S v) rfl (fun w14 => ?_)
    refine sim_seg [(.aload_n 0, 0, 0, 0)] [] (q := 90) (L' := [some (.ref p0), some (.int p1), some (.int p2), some (.int p3)]) (st' := [.ref p0]) (v1 := w14) (by decide +kernel) rfl trivial ?_
    refine sc_pi (pc3 := 93) (cf_V (idx := 94) (ci := 2) [] m_tx_takeSemicolon (by decide) ⟨by decide, by decide⟩ (List.mem_of_getElem? (i := 455) (by decide +kernel)) rfl (Nat.le_of_ble_eq_true rfl) h6 (by decide +kernel) (Nat.le_of_ble_eq_true rfl) rfl) (ok_tx_takeSemicolon N p0 S w14) rfl (fun x15 w16 => ?_)
    refine sim_grd fun h17 => ?_
    exact sim_iret (by decide +kernel) rfl h17 rfl
  · refine sim_seg [(.aload_n 0, 0, 0, 0), (.iconst 1, 0, 0, 1)] [] (q := 63) (L' := [some (.ref p0), some (.int p1), some (.int p2), some (.int p3)]) (st' := [.int (J 1), .ref p0]) (v1 := v) (by decide +kernel) rfl trivial ?_
    refine sc_pi (pc3 := 66) (cf_V (idx := 80) (ci := 2) [.int (J 1)] m_tx_takeSigned (by decide) ⟨by decide, by decide⟩ (List.mem_of_getElem? (i := 449) (by decide +kernel)) rfl (Nat.le_of_ble_eq_true rfl) h6 (by decide +kernel) (Nat.le_of_ble_eq_true rfl) rfl) (ok_tx_takeSigned N p0 (J 1) S v) rfl (fun x18 w19 => ?_)
    refine sim_ne0 (o := 5) (tg := 71) (f := 69) (by decide +kernel) rfl rfl (fun _ => ?_) (fun _ => ?_)
    · refine sim_seg [(.iconst 0, 0, 0, 0)] [] (q := 70) (L' := [some (.ref p0), some (.int p1), some (.int p2), some (.int p3)]) (st' := [.int (J 0)]) (v1 := w19) (by decide +kernel) rfl trivial ?_
      exact sim_iret (by decide +kernel) rfl (by decide) rfl
    · refine sim_seg [(.aload_n 0, 0, 0, 0), (.getfield 75, 2, 12, 0), (.istore_n 3, 0, 0, 0)] [] (q := 76) (L' := [some (.ref p0), some (.int p1), some (.int p2), some (.int (gi w19 p0 12))]) (st' := []) (v1 := w19) (by decide +kernel) rfl ⟨h6, trivial⟩ ?_
      refine sim_bind fun r20 h21 => ?_
      refine sim_grd fun h22 => ?_
      refine sim_bind fun r23 h24 => ?_
      refine sim_seg [(.aload_n 0, 0, 0, 0), (.getfield 18, 2, 4, 0), (.getfield 85, 4, 6, 0), (.iload_n 1, 0, 0, 0), (.iload_n 2, 0, 0, 0), (.iload_n 3, 0, 0, 0)] [r20, r23] (q := 86) (L' := [some (.ref p0), some (.int p1), some (.int p2), some (.int (gi w19 p0 12))]) (st' := [.int (gi w19 p0 12), .int p2, .int p1, .ref r23]) (v1 := w19) (by decide +kernel) rfl ⟨⟨h6, h21⟩, ⟨h22, h24⟩, trivial⟩ ?_
      refine sim_grd fun h25 => ?_
      refine sc_pv (pc3 := 89) (cf_V (idx := 88) (ci := 0) [.int p1, .int p2, .int (gi w19 p0 12)] m_ck_start (by decide) ⟨by decide, by decide⟩ (List.mem_of_getElem? (i := 454) (by decide +kernel)) rfl (Nat.le_of_ble_eq_true rfl) h25 (by decide +kernel) (Nat.le_of_ble_eq_true rfl) rfl) (ok_ck_start r23 p1 p2 (gi w19 p0 12) S w19) rfl (fun w26 => ?_)
      refine sim_seg [(.aload_n 0, 0, 0, 0)] [] (q := 90) (L' := [some (.ref p0), some (.int p1), some (.int p2), some (.int (gi w19 p0 12))]) (st' := [.ref p0]) (v1 := w26) (by decide +kernel) rfl trivial ?_
      refine sc_pi (pc3 := 93) (cf_V (idx := 94) (ci := 2) [] m_tx_takeSemicolon (by decide) ⟨by decide, by decide⟩ (List.mem_of_getElem? (i := 455) (by decide +kernel)) rfl (Nat.le_of_ble_eq_true rfl) h6 (by decide +kernel) (Nat.le_of_ble_eq_true rfl) rfl) (ok_tx_takeSemicolon N p0 S w26) rfl (fun x27 w28 => ?_)
      refine sim_grd fun h29 => ?_
      exact sim_iret (by decide +kernel) rfl h29 rfl
noncomputable def F_tx_readClock (N : Nat) (a0 : Nat) (S : shp) (v : vl) : Option (Int32 × vl) :=
  grd (kin S a0 = some (0, 2)) <| (F_tx_advance N a0 S v).bind fun w2 => (F_tx_takeNumber N a0 (J 10) (J 999) S w2).bind fun (x3, w4) => (if x3 = (J 0) then some (((J 0), w4)) else (F_tx_isWord N a0 (kad S 11) S w4).bind fun x5 => (if x5 = (J 0) then K_tx_readClock_52 N  S w4 a0 (gi w4 a0 12) (J 0) (J 0) else (F_tx_takeSigned N a0 (J 99) S w4).bind fun (x30, w31) => (if x30 = (J 0) then some (((J 0), w31)) else K_tx_readClock_52 N  S w31 a0 (gi w4 a0 12) (gi w31 a0 12) (J 0))))
theorem ok_tx_readClock (N : Nat) (a0 : Nat) (S : shp) (v : vl) : SimK B_tx_readClock 0 (entB (bN B_tx_readClock) [.ref a0]) [] S v (F_tx_readClock N a0 S v) (ρpi S) := by
  show SimK B_tx_readClock 0 [some (.ref a0), none, none, none] [] S v (F_tx_readClock N a0 S v) _
  unfold F_tx_readClock
  refine sim_seg [(.aload_n 0, 0, 0, 0)] [] (q := 1) (L' := [some (.ref a0), none, none, none]) (st' := [.ref a0]) (v1 := v) (by decide +kernel) rfl trivial ?_
  refine sim_grd fun h1 => ?_
  refine sc_pv (pc3 := 4) (cf_V (idx := 48) (ci := 2) [] m_tx_advance (by decide) ⟨by decide, by decide⟩ (List.mem_of_getElem? (i := 366) (by decide +kernel)) rfl (Nat.le_of_ble_eq_true rfl) h1 (by decide +kernel) (Nat.le_of_ble_eq_true rfl) rfl) (ok_tx_advance N a0 S v) rfl (fun w2 => ?_)
  refine sim_seg [(.aload_n 0, 0, 0, 0), (.bipush 10, 0, 0, 10), (.sipush 999, 0, 0, 999)] [] (q := 10) (L' := [some (.ref a0), none, none, none]) (st' := [.int (J 999), .int (J 10), .ref a0]) (v1 := w2) (by decide +kernel) rfl trivial ?_
  refine sc_pi (pc3 := 13) (cf_V (idx := 71) (ci := 2) [.int (J 10), .int (J 999)] m_tx_takeNumber (by decide) ⟨by decide, by decide⟩ (List.mem_of_getElem? (i := 440) (by decide +kernel)) rfl (Nat.le_of_ble_eq_true rfl) h1 (by decide +kernel) (Nat.le_of_ble_eq_true rfl) rfl) (ok_tx_takeNumber N a0 (J 10) (J 999) S w2) rfl (fun x3 w4 => ?_)
  refine sim_ne0 (o := 5) (tg := 18) (f := 16) (by decide +kernel) rfl rfl (fun _ => ?_) (fun _ => ?_)
  · refine sim_seg [(.iconst 0, 0, 0, 0)] [] (q := 17) (L' := [some (.ref a0), none, none, none]) (st' := [.int (J 0)]) (v1 := w4) (by decide +kernel) rfl trivial ?_
    exact sim_iret (by decide +kernel) rfl (by decide) rfl
  · refine sim_seg [(.aload_n 0, 0, 0, 0), (.getfield 75, 2, 12, 0), (.istore_n 1, 0, 0, 0)] [] (q := 23) (L' := [some (.ref a0), some (.int (gi w4 a0 12)), none, none]) (st' := []) (v1 := w4) (by decide +kernel) rfl ⟨h1, trivial⟩ ?_
    refine sim_seg [(.iconst 0, 0, 0, 0), (.istore_n 2, 0, 0, 0)] [] (q := 25) (L' := [some (.ref a0), some (.int (gi w4 a0 12)), some (.int (J 0)), none]) (st' := []) (v1 := w4) (by decide +kernel) rfl trivial ?_
    refine sim_seg [(.iconst 0, 0, 0, 0), (.istore_n 3, 0, 0, 0)] [] (q := 27) (L' := [some (.ref a0), some (.int (gi w4 a0 12)), some (.int (J 0)), some (.int (J 0))]) (st' := []) (v1 := w4) (by decide +kernel) rfl trivial ?_
    refine sim_seg [(.aload_n 0, 0, 0, 0)] [] (q := 28) (L' := [some (.ref a0), some (.int (gi w4 a0 12)), some (.int (J 0)), some (.int (J 0))]) (st' := [.ref a0]) (v1 := w4) (by decide +kernel) rfl trivial ?_
    refine sim_ldcs (idx := 78) (j := 11) (tx := "drift") (pc3 := 30) (by decide +kernel) (by decide +kernel) rfl ?_
    refine sc_ri (pc3 := 33) (cf_V (idx := 53) (ci := 2) [.ref (kad S 11)] m_tx_isWord (by decide) ⟨by decide, by decide⟩ (List.mem_of_getElem? (i := 385) (by decide +kernel)) rfl (Nat.le_of_ble_eq_true rfl) h1 (by decide +kernel) (Nat.le_of_ble_eq_true rfl) rfl) (ok_tx_isWord N a0 (kad S 11) S w4) rfl (fun x5 => ?_)
    refine sim_eq0 (o := 19) (tg := 52) (f := 36) (by decide +kernel) rfl rfl (fun _ => ?_) (fun _ => ?_)
    · exact sK_tx_readClock_52 N S w4 a0 (gi w4 a0 12) (J 0) (J 0)
    · refine sim_seg [(.aload_n 0, 0, 0, 0), (.bipush 99, 0, 0, 99)] [] (q := 39) (L' := [some (.ref a0), some (.int (gi w4 a0 12)), some (.int (J 0)), some (.int (J 0))]) (st' := [.int (J 99), .ref a0]) (v1 := w4) (by decide +kernel) rfl trivial ?_
      refine sc_pi (pc3 := 42) (cf_V (idx := 80) (ci := 2) [.int (J 99)] m_tx_takeSigned (by decide) ⟨by decide, by decide⟩ (List.mem_of_getElem? (i := 449) (by decide +kernel)) rfl (Nat.le_of_ble_eq_true rfl) h1 (by decide +kernel) (Nat.le_of_ble_eq_true rfl) rfl) (ok_tx_takeSigned N a0 (J 99) S w4) rfl (fun x30 w31 => ?_)
      refine sim_ne0 (o := 5) (tg := 47) (f := 45) (by decide +kernel) rfl rfl (fun _ => ?_) (fun _ => ?_)
      · refine sim_seg [(.iconst 0, 0, 0, 0)] [] (q := 46) (L' := [some (.ref a0), some (.int (gi w4 a0 12)), some (.int (J 0)), some (.int (J 0))]) (st' := [.int (J 0)]) (v1 := w31) (by decide +kernel) rfl trivial ?_
        exact sim_iret (by decide +kernel) rfl (by decide) rfl
      · refine sim_seg [(.aload_n 0, 0, 0, 0), (.getfield 75, 2, 12, 0), (.istore_n 2, 0, 0, 0)] [] (q := 52) (L' := [some (.ref a0), some (.int (gi w4 a0 12)), some (.int (gi w31 a0 12)), some (.int (J 0))]) (st' := []) (v1 := w31) (by decide +kernel) rfl ⟨h1, trivial⟩ ?_
        exact sK_tx_readClock_52 N S w31 a0 (gi w4 a0 12) (gi w31 a0 12) (J 0)
def B_tx_readGate : bd := (⟨"GateCounter$SetupText", "readGate", "()Z"⟩, prog_4_method_7_code, 1, (some .boolean), [], 2, 4)
theorem m_tx_readGate : mV B_tx_readGate 2 0 := ⟨⟨⟨by decide +kernel, Or.inl rfl⟩, rfl, (List.mem_of_getElem? (i := 478) (by decide +kernel)), by decide +kernel, (List.mem_of_getElem? (i := 58) (by decide +kernel)), ⟨by decide, by decide⟩, by decide⟩, rfl, (by unfold nar; decide +kernel), (List.mem_of_getElem? (i := 477) (by decide +kernel)), rfl, (List.mem_of_getElem? (i := 15) (by decide +kernel))⟩
noncomputable def F_tx_readGate (N : Nat) (a0 : Nat) (S : shp) (v : vl) : Option (Int32 × vl) :=
  grd (kin S a0 = some (0, 2)) <| (if (gi v a0 6) = (J 0) then lt (si v a0 6 (J 1)) fun w2 => (F_tx_advance N a0 S w2).bind fun w3 => (F_tx_takeNumber N a0 (J 1) (J 9999) S w3).bind fun (x4, w5) => (if x4 = (J 0) then some (((J 0), w5)) else (gr S a0 4).bind fun r6 => grd (kin S r6 = some (0, 4)) <| lt (si w5 r6 1 (gi w5 a0 12)) fun w9 => some (((J 1), w9))) else (F_tx_fail a0 (J 3) S v).bind fun (x10, w11) => grd (narrow .boolean (.int x10) = .int x10) <| some ((x10, w11)))
theorem ok_tx_readGate (N : Nat) (a0 : Nat) (S : shp) (v : vl) : SimK B_tx_readGate 0 (entB (bN B_tx_readGate) [.ref a0]) [] S v (F_tx_readGate N a0 S v) (ρpi S) := by
  show SimK B_tx_readGate 0 [some (.ref a0)] [] S v (F_tx_readGate N a0 S v) _
  unfold F_tx_readGate
  refine sim_grd fun h1 => ?_
  refine sim_seg [(.aload_n 0, 0, 0, 0), (.getfield 39, 2, 6, 0)] [] (q := 4) (L' := [some (.ref a0)]) (st' := [.int (gi v a0 6)]) (v1 := v) (by decide +kernel) rfl ⟨h1, trivial⟩ ?_
  refine sim_eq0 (o := 9) (tg := 13) (f := 7) (by decide +kernel) rfl rfl (fun _ => ?_) (fun _ => ?_)
  · refine sim_seg [(.aload_n 0, 0, 0, 0), (.iconst 1, 0, 0, 1), (.putfield 39, 2, 6, 0), (.aload_n 0, 0, 0, 0)] [] (q := 19) (L' := [some (.ref a0)]) (st' := [.ref a0]) (v1 := (si v a0 6 (J 1))) (by decide +kernel) rfl ⟨⟨h1, by decide⟩, trivial⟩ ?_
    refine sim_lt (x := (si v a0 6 (J 1))) ?_
    generalize (si v a0 6 (J 1)) = w2
    refine sc_pv (pc3 := 22) (cf_V (idx := 48) (ci := 2) [] m_tx_advance (by decide) ⟨by decide, by decide⟩ (List.mem_of_getElem? (i := 366) (by decide +kernel)) rfl (Nat.le_of_ble_eq_true rfl) h1 (by decide +kernel) (Nat.le_of_ble_eq_true rfl) rfl) (ok_tx_advance N a0 S w2) rfl (fun w3 => ?_)
    refine sim_seg [(.aload_n 0, 0, 0, 0), (.iconst 1, 0, 0, 1), (.sipush 9999, 0, 0, 9999)] [] (q := 27) (L' := [some (.ref a0)]) (st' := [.int (J 9999), .int (J 1), .ref a0]) (v1 := w3) (by decide +kernel) rfl trivial ?_
    refine sc_pi (pc3 := 30) (cf_V (idx := 71) (ci := 2) [.int (J 1), .int (J 9999)] m_tx_takeNumber (by decide) ⟨by decide, by decide⟩ (List.mem_of_getElem? (i := 440) (by decide +kernel)) rfl (Nat.le_of_ble_eq_true rfl) h1 (by decide +kernel) (Nat.le_of_ble_eq_true rfl) rfl) (ok_tx_takeNumber N a0 (J 1) (J 9999) S w3) rfl (fun x4 w5 => ?_)
    refine sim_ne0 (o := 5) (tg := 35) (f := 33) (by decide +kernel) rfl rfl (fun _ => ?_) (fun _ => ?_)
    · refine sim_seg [(.iconst 0, 0, 0, 0)] [] (q := 34) (L' := [some (.ref a0)]) (st' := [.int (J 0)]) (v1 := w5) (by decide +kernel) rfl trivial ?_
      exact sim_iret (by decide +kernel) rfl (by decide) rfl
    · refine sim_bind fun r6 h7 => ?_
      refine sim_grd fun h8 => ?_
      refine sim_seg [(.aload_n 0, 0, 0, 0), (.getfield 18, 2, 4, 0), (.aload_n 0, 0, 0, 0), (.getfield 75, 2, 12, 0), (.putfield 132, 4, 1, 0), (.iconst 1, 0, 0, 1)] [r6] (q := 47) (L' := [some (.ref a0)]) (st' := [.int (J 1)]) (v1 := (si w5 r6 1 (gi w5 a0 12))) (by decide +kernel) rfl ⟨⟨h1, h7⟩, h1, h8, trivial⟩ ?_
      refine sim_lt (x := (si w5 r6 1 (gi w5 a0 12))) ?_
      generalize (si w5 r6 1 (gi w5 a0 12)) = w9
      exact sim_iret (by decide +kernel) rfl (by decide) rfl
  · refine sim_seg [(.aload_n 0, 0, 0, 0), (.iconst 3, 0, 0, 3)] [] (q := 9) (L' := [some (.ref a0)]) (st' := [.int (J 3), .ref a0]) (v1 := v) (by decide +kernel) rfl trivial ?_
    refine sc_pi (pc3 := 12) (cf_V (idx := 61) (ci := 2) [.int (J 3)] m_tx_fail (by decide) ⟨by decide, by decide⟩ (List.mem_of_getElem? (i := 444) (by decide +kernel)) rfl (Nat.le_of_ble_eq_true rfl) h1 (by decide +kernel) (Nat.le_of_ble_eq_true rfl) rfl) (ok_tx_fail a0 (J 3) S v) rfl (fun x10 w11 => ?_)
    refine sim_grd fun h12 => ?_
    exact sim_iret (by decide +kernel) rfl h12 rfl
def B_tx_readPeriods : bd := (⟨"GateCounter$SetupText", "readPeriods", "()Z"⟩, prog_4_method_8_code, 1, (some .boolean), [], 2, 4)
theorem m_tx_readPeriods : mV B_tx_readPeriods 2 0 := ⟨⟨⟨by decide +kernel, Or.inl rfl⟩, rfl, (List.mem_of_getElem? (i := 483) (by decide +kernel)), by decide +kernel, (List.mem_of_getElem? (i := 58) (by decide +kernel)), ⟨by decide, by decide⟩, by decide⟩, rfl, (by unfold nar; decide +kernel), (List.mem_of_getElem? (i := 482) (by decide +kernel)), rfl, (List.mem_of_getElem? (i := 16) (by decide +kernel))⟩
noncomputable def F_tx_readPeriods (N : Nat) (a0 : Nat) (S : shp) (v : vl) : Option (Int32 × vl) :=
  grd (kin S a0 = some (0, 2)) <| (if (gi v a0 7) = (J 0) then lt (si v a0 7 (J 1)) fun w2 => (F_tx_advance N a0 S w2).bind fun w3 => (F_tx_takeNumber N a0 (J 1) (J 999) S w3).bind fun (x4, w5) => (if x4 = (J 0) then some (((J 0), w5)) else (gr S a0 4).bind fun r6 => grd (kin S r6 = some (0, 4)) <| lt (si w5 r6 2 (gi w5 a0 12)) fun w9 => some (((J 1), w9))) else (F_tx_fail a0 (J 3) S v).bind fun (x10, w11) => grd (narrow .boolean (.int x10) = .int x10) <| some ((x10, w11)))
theorem ok_tx_readPeriods (N : Nat) (a0 : Nat) (S : shp) (v : vl) : SimK B_tx_readPeriods 0 (entB (bN B_tx_readPeriods) [.ref a0]) [] S v (F_tx_readPeriods N a0 S v) (ρpi S) := by
  show SimK B_tx_readPeriods 0 [some (.ref a0)] [] S v (F_tx_readPeriods N a0 S v) _
  unfold F_tx_readPeriods
  refine sim_grd fun h1 => ?_
  refine sim_seg [(.aload_n 0, 0, 0, 0), (.getfield 42, 2, 7, 0)] [] (q := 4) (L' := [some (.ref a0)]) (st' := [.int (gi v a0 7)]) (v1 := v) (by decide +kernel) rfl ⟨h1, trivial⟩ ?_
  refine sim_eq0 (o := 9) (tg := 13) (f := 7) (by decide +kernel) rfl rfl (fun _ => ?_) (fun _ => ?_)
  · refine sim_seg [(.aload_n 0, 0, 0, 0), (.iconst 1, 0, 0, 1), (.putfield 42, 2, 7, 0), (.aload_n 0, 0, 0, 0)] [] (q := 19) (L' := [some (.ref a0)]) (st' := [.ref a0]) (v1 := (si v a0 7 (J 1))) (by decide +kernel) rfl ⟨⟨h1, by decide⟩, trivial⟩ ?_
    refine sim_lt (x := (si v a0 7 (J 1))) ?_
    generalize (si v a0 7 (J 1)) = w2
    refine sc_pv (pc3 := 22) (cf_V (idx := 48) (ci := 2) [] m_tx_advance (by decide) ⟨by decide, by decide⟩ (List.mem_of_getElem? (i := 366) (by decide +kernel)) rfl (Nat.le_of_ble_eq_true rfl) h1 (by decide +kernel) (Nat.le_of_ble_eq_true rfl) rfl) (ok_tx_advance N a0 S w2) rfl (fun w3 => ?_)
    refine sim_seg [(.aload_n 0, 0, 0, 0), (.iconst 1, 0, 0, 1), (.sipush 999, 0, 0, 999)] [] (q := 27) (L' := [some (.ref a0)]) (st' := [.int (J 999), .int (J 1), .ref a0]) (v1 := w3) (by decide +kernel) rfl trivial ?_
    refine sc_pi (pc3 := 30) (cf_V (idx := 71) (ci := 2) [.int (J 1), .int (J 999)] m_tx_takeNumber (by decide) ⟨by decide, by decide⟩ (List.mem_of_getElem? (i := 440) (by decide +kernel)) rfl (Nat.le_of_ble_eq_true rfl) h1 (by decide +kernel) (Nat.le_of_ble_eq_true rfl) rfl) (ok_tx_takeNumber N a0 (J 1) (J 999) S w3) rfl (fun x4 w5 => ?_)
    refine sim_ne0 (o := 5) (tg := 35) (f := 33) (by decide +kernel) rfl rfl (fun _ => ?_) (fun _ => ?_)
    · refine sim_seg [(.iconst 0, 0, 0, 0)] [] (q := 34) (L' := [some (.ref a0)]) (st' := [.int (J 0)]) (v1 := w5) (by decide +kernel) rfl trivial ?_
      exact sim_iret (by decide +kernel) rfl (by decide) rfl
    · refine sim_bind fun r6 h7 => ?_
      refine sim_grd fun h8 => ?_
      refine sim_seg [(.aload_n 0, 0, 0, 0), (.getfield 18, 2, 4, 0), (.aload_n 0, 0, 0, 0), (.getfield 75, 2, 12, 0), (.putfield 135, 4, 2, 0), (.iconst 1, 0, 0, 1)] [r6] (q := 47) (L' := [some (.ref a0)]) (st' := [.int (J 1)]) (v1 := (si w5 r6 2 (gi w5 a0 12))) (by decide +kernel) rfl ⟨⟨h1, h7⟩, h1, h8, trivial⟩ ?_
      refine sim_lt (x := (si w5 r6 2 (gi w5 a0 12))) ?_
      generalize (si w5 r6 2 (gi w5 a0 12)) = w9
      exact sim_iret (by decide +kernel) rfl (by decide) rfl
  · refine sim_seg [(.aload_n 0, 0, 0, 0), (.iconst 3, 0, 0, 3)] [] (q := 9) (L' := [some (.ref a0)]) (st' := [.int (J 3), .ref a0]) (v1 := v) (by decide +kernel) rfl trivial ?_
    refine sc_pi (pc3 := 12) (cf_V (idx := 61) (ci := 2) [.int (J 3)] m_tx_fail (by decide) ⟨by decide, by decide⟩ (List.mem_of_getElem? (i := 444) (by decide +kernel)) rfl (Nat.le_of_ble_eq_true rfl) h1 (by decide +kernel) (Nat.le_of_ble_eq_true rfl) rfl) (ok_tx_fail a0 (J 3) S v) rfl (fun x10 w11 => ?_)
    refine sim_grd fun h12 => ?_
    exact sim_iret (by decide +kernel) rfl h12 rfl
def B_gc_isPrescale : bd := (⟨"GateCounter", "isPrescale", "(I)Z"⟩, prog_1_method_75_code, 5, (some .boolean), [], 5, 0)
theorem m_gc_isPrescale : mS B_gc_isPrescale 1 := ⟨⟨⟨by decide +kernel, Or.inl rfl⟩, rfl, (List.mem_of_getElem? (i := 470) (by decide +kernel)), by decide +kernel, (List.mem_of_getElem? (i := 57) (by decide +kernel)), ⟨by decide, by decide⟩, by decide⟩, rfl, (by unfold nar; decide +kernel), (List.mem_of_getElem? (i := 469) (by decide +kernel))⟩
noncomputable def Y_gc_isPrescale_9 (N : Nat)  (i9 : Int32 → Nat → Int32 → Int32 → Option Int32) (S : shp) (v : vl)  (p0 : Int32) (p1 : Nat) (p2 : Int32) (p3 : Int32) : Option Int32 :=
  (if p3 < p2 then grd (kin S p1 = some (11, 5)) <| grd (vp_in p3 (alen S p1)) <| lt (gi v p1 (Int32.toNatClampNeg p3)) fun x4 => (if p0 = x4 then some ((J 1)) else i9 p0 p1 p2 (p3 + (J 1))) else some ((J 0)))
noncomputable def K_gc_isPrescale_9 (N : Nat)  (n : Nat) (S : shp) (v : vl) : Int32 → Nat → Int32 → Int32 → Option Int32 :=
  Nat.rec (motive := fun _ => Int32 → Nat → Int32 → Int32 → Option Int32) (fun _ _ _ _ => none) (fun _ i => Y_gc_isPrescale_9 N  i S v) n
theorem sY_gc_isPrescale_9 (N : Nat)  (i9 : Int32 → Nat → Int32 → Int32 → Option Int32) (S : shp) (v : vl)  (j9 : ∀ (p0 : Int32) (p1 : Nat) (p2 : Int32) (p3 : Int32), SimK B_gc_isPrescale 9 [some (.int p0), some (.ref p1), some (.int p2), some (.int p3), none] [] S v (i9 p0 p1 p2 p3) (ρri S v))  (p0 : Int32) (p1 : Nat) (p2 : Int32) (p3 : Int32) : SimK B_gc_isPrescale 9 [some (.int p0), some (.ref p1), some (.int p2), some (.int p3), none] [] S v (Y_gc_isPrescale_9 N  i9 S v  p0 p1 p2 p3) (ρri S v) := by
  unfold Y_gc_isPrescale_9
  refine sim_seg [(.iload_n 3, 0, 0, 0), (.iload_n 2, 0, 0, 0)] [] (q := 11) (L' := [some (.int p0), some (.ref p1), some (.int p2), some (.int p3), none]) (st' := [.int p2, .int p3]) (v1 := v) (by decide +kernel) rfl trivial ?_
  refine sim_ge (o := 22) (tg := 33) (f := 14) (by decide +kernel) rfl rfl (fun _ => ?_) (fun _ => ?_)
  · refine sim_grd fun h2 => ?_
    refine sim_grd fun h3 => ?_
    refine sim_seg [(.aload_n 1, 0, 0, 0), (.iload_n 3, 0, 0, 0), (.iaload, 0, 0, 0), (.istore 4, 0, 0, 0)] [] (q := 19) (L' := [some (.int p0), some (.ref p1), some (.int p2), some (.int p3), some (.int (gi v p1 (Int32.toNatClampNeg p3)))]) (st' := []) (v1 := v) (by decide +kernel) rfl ⟨⟨(Or.inr (kin_alen h2)), h3⟩, trivial⟩ ?_
    refine sim_nm (gi v p1 (Int32.toNatClampNeg p3)) (fun x4 => [some (.int p0), some (.ref p1), some (.int p2), some (.int p3), some (.int x4)]) (fun x4 => []) (fun x4 => ?_) rfl rfl
    refine sim_seg [(.iload_n 0, 0, 0, 0), (.iload 4, 0, 0, 0)] [] (q := 22) (L' := [some (.int p0), some (.ref p1), some (.int p2), some (.int p3), some (.int x4)]) (st' := [.int x4, .int p0]) (v1 := v) (by decide +kernel) rfl trivial ?_
    refine sim_ne (o := 5) (tg := 27) (f := 25) (by decide +kernel) rfl rfl (fun _ => ?_) (fun _ => ?_)
    · refine sim_seg [(.iconst 1, 0, 0, 1)] [] (q := 26) (L' := [some (.int p0), some (.ref p1), some (.int p2), some (.int p3), some (.int x4)]) (st' := [.int (J 1)]) (v1 := v) (by decide +kernel) rfl trivial ?_
      exact sim_iret (by decide +kernel) rfl (by decide) rfl
    · refine sim_seg [(.iinc 3 1, 0, 0, 1)] [] (q := 30) (L' := [some (.int p0), some (.ref p1), some (.int p2), some (.int (p3 + (J 1))), some (.int x4)]) (st' := []) (v1 := v) (by decide +kernel) rfl trivial ?_
      refine sim_seg [(.goto (-21), 0, 0, 0)] [] (q := 9) (L' := [some (.int p0), some (.ref p1), some (.int p2), some (.int (p3 + (J 1))), some (.int x4)]) (st' := []) (v1 := v) (by decide +kernel) rfl trivial ?_
      exact sim_wk (L0 := [some (.int p0), some (.ref p1), some (.int p2), some (.int (p3 + (J 1))), none]) ⟨rfl, rfl, rfl, rfl, trivial⟩ (j9 p0 p1 p2 (p3 + (J 1)))
  · refine sim_seg [(.iconst 0, 0, 0, 0)] [] (q := 34) (L' := [some (.int p0), some (.ref p1), some (.int p2), some (.int p3), none]) (st' := [.int (J 0)]) (v1 := v) (by decide +kernel) rfl trivial ?_
    exact sim_iret (by decide +kernel) rfl (by decide) rfl
theorem sR_gc_isPrescale_9 (N : Nat)  (S : shp) (v : vl)  (n : Nat) : ∀  (p0 : Int32) (p1 : Nat) (p2 : Int32) (p3 : Int32), SimK B_gc_isPrescale 9 [some (.int p0), some (.ref p1), some (.int p2), some (.int p3), none] [] S v (K_gc_isPrescale_9 N  n S v  p0 p1 p2 p3) (ρri S v) := by
  induction n with
  | zero => intro p0 p1 p2 p3; exact sim_none
  | succ k ih => intro p0 p1 p2 p3; exact sY_gc_isPrescale_9 N   _ S v  ih p0 p1 p2 p3
theorem sK_gc_isPrescale_9 (N : Nat)  (n : Nat) (S : shp) (v : vl) (p0 : Int32) (p1 : Nat) (p2 : Int32) (p3 : Int32) : SimK B_gc_isPrescale 9 [some (.int p0), some (.ref p1), some (.int p2), some (.int p3), none] [] S v (K_gc_isPrescale_9 N  n S v  p0 p1 p2 p3) (ρri S v) := sR_gc_isPrescale_9 N   S v  n  p0 p1 p2 p3
noncomputable def F_gc_isPrescale (N : Nat) (b0 : Int32) (S : shp) (v : vl) : Option Int32 :=
  grd (kin S (kad S 0) = some (11, 5)) <| K_gc_isPrescale_9 N  N S v b0 (kad S 0) (nI (alen S (kad S 0))) (J 0)
theorem ok_gc_isPrescale (N : Nat) (b0 : Int32) (S : shp) (v : vl) : SimK B_gc_isPrescale 0 (entB (bN B_gc_isPrescale) [.int b0]) [] S v (F_gc_isPrescale N b0 S v) (ρri S v) := by
  show SimK B_gc_isPrescale 0 [some (.int b0), none, none, none, none] [] S v (F_gc_isPrescale N b0 S v) _
  unfold F_gc_isPrescale
  refine sim_gets (idx := 262) (m := 0) (pc3 := 3) (by decide) (by decide +kernel) (show Cond.fieldLink (owns (bO B_gc_isPrescale)) 262 "GateCounter" "PRESCALES" "[I" ∈ tb2 from (List.mem_of_getElem? (i := 471) (by decide +kernel))) rfl ?_
  show SimK _ _ _ ([.ref (kad S 0)]) _ _ _ _
  refine sim_seg [(.astore_n 1, 0, 0, 0)] [] (q := 4) (L' := [some (.int b0), some (.ref (kad S 0)), none, none, none]) (st' := []) (v1 := v) (by decide +kernel) rfl trivial ?_
  refine sim_grd fun h1 => ?_
  refine sim_seg [(.aload_n 1, 0, 0, 0), (.arraylength, 0, 0, 0), (.istore_n 2, 0, 0, 0)] [] (q := 7) (L' := [some (.int b0), some (.ref (kad S 0)), some (.int (nI (alen S (kad S 0)))), none, none]) (st' := []) (v1 := v) (by decide +kernel) rfl ⟨⟨_, _, h1, by decide⟩, trivial⟩ ?_
  refine sim_seg [(.iconst 0, 0, 0, 0), (.istore_n 3, 0, 0, 0)] [] (q := 9) (L' := [some (.int b0), some (.ref (kad S 0)), some (.int (nI (alen S (kad S 0)))), some (.int (J 0)), none]) (st' := []) (v1 := v) (by decide +kernel) rfl trivial ?_
  exact sK_gc_isPrescale_9 N N S v b0 (kad S 0) (nI (alen S (kad S 0))) (J 0)
def B_tx_readPrescale : bd := (⟨"GateCounter$SetupText", "readPrescale", "()Z"⟩, prog_4_method_6_code, 1, (some .boolean), [], 2, 4)
theorem m_tx_readPrescale : mV B_tx_readPrescale 2 0 := ⟨⟨⟨by decide +kernel, Or.inl rfl⟩, rfl, (List.mem_of_getElem? (i := 467) (by decide +kernel)), by decide +kernel, (List.mem_of_getElem? (i := 58) (by decide +kernel)), ⟨by decide, by decide⟩, by decide⟩, rfl, (by unfold nar; decide +kernel), (List.mem_of_getElem? (i := 466) (by decide +kernel)), rfl, (List.mem_of_getElem? (i := 14) (by decide +kernel))⟩
noncomputable def K_tx_readPrescale_46 (N : Nat)  (S : shp) (v : vl) (p0 : Nat) : Option (Int32 × vl) :=
  grd (kin S p0 = some (0, 2)) <| (F_tx_takeNumber N p0 (J 1) (J 16) S v).bind fun (x9, w10) => (if x9 = (J 0) then some (((J 0), w10)) else (gr S p0 4).bind fun r11 => grd (kin S r11 = some (0, 4)) <| (gr S r11 7).bind fun r14 => grd (kin S r14 = some (0, 3)) <| (F_sg_setUpPrescaler r14 (gi w10 p0 12) S w10).bind fun w17 => some (((J 1), w17)))
theorem sK_tx_readPrescale_46 (N : Nat)   (S : shp) (v : vl) (p0 : Nat) : SimK B_tx_readPrescale 46 [some (.ref p0)] [] S v (K_tx_readPrescale_46 N  S v p0) (ρpi S) := by
  unfold K_tx_readPrescale_46
  refine sim_seg [(.aload_n 0, 0, 0, 0), (.iconst 1, 0, 0, 1), (.bipush 16, 0, 0, 16)] [] (q := 50) (L' := [some (.ref p0)]) (st' := [.int (J 16), .int (J 1), .ref p0]) (v1 := v) (by decide +kernel) rfl trivial ?_
  refine sim_grd fun h8 => ?_
  refine sc_pi (pc3 := 53) (cf_V (idx := 71) (ci := 2) [.int (J 1), .int (J 16)] m_tx_takeNumber (by decide) ⟨by decide, by decide⟩ (List.mem_of_getElem? (i := 440) (by decide +kernel)) rfl (Nat.le_of_ble_eq_true rfl) h8 (by decide +kernel) (Nat.le_of_ble_eq_true rfl) rfl) (ok_tx_takeNumber N p0 (J 1) (J 16) S v) rfl (fun x9 w10 => ?_)
  refine sim_ne0 (o := 5) (tg := 58) (f := 56) (by decide +kernel) rfl rfl (fun _ => ?_) (fun _ => ?_)
  · refine sim_seg [(.iconst 0, 0, 0, 0)] [] (q := 57) (L' := [some (.ref p0)]) (st' := [.int (J 0)]) (v1 := w10) (by decide +kernel) rfl trivial ?_
    exact sim_iret (by decide +kernel) rfl (by decide) rfl
  · refine sim_bind fun r11 h12 => ?_
    refine sim_grd fun h13 => ?_
    refine sim_bind fun r14 h15 => ?_
    refine sim_seg [(.aload_n 0, 0, 0, 0), (.getfield 18, 2, 4, 0), (.getfield 123, 4, 7, 0), (.aload_n 0, 0, 0, 0), (.getfield 75, 2, 12, 0)] [r11, r14] (q := 69) (L' := [some (.ref p0)]) (st' := [.int (gi w10 p0 12), .ref r14]) (v1 := w10) (by decide +kernel) rfl ⟨⟨h8, h12⟩, ⟨h13, h15⟩, h8, trivial⟩ ?_
    refine sim_grd fun h16 => ?_
    refine sc_pv (pc3 := 72) (cf_V (idx := 126) (ci := 3) [.int (gi w10 p0 12)] m_sg_setUpPrescaler (by decide) ⟨by decide, by decide⟩ (List.mem_of_getElem? (i := 473) (by decide +kernel)) rfl (Nat.le_of_ble_eq_true rfl) h16 (by decide +kernel) (Nat.le_of_ble_eq_true rfl) rfl) (ok_sg_setUpPrescaler r14 (gi w10 p0 12) S w10) rfl (fun w17 => ?_)
    refine sim_seg [(.iconst 1, 0, 0, 1)] [] (q := 73) (L' := [some (.ref p0)]) (st' := [.int (J 1)]) (v1 := w17) (by decide +kernel) rfl trivial ?_
    exact sim_iret (by decide +kernel) rfl (by decide) rfl
noncomputable def F_tx_readPrescale (N : Nat) (a0 : Nat) (S : shp) (v : vl) : Option (Int32 × vl) :=
  grd (kin S a0 = some (0, 2)) <| (if (gi v a0 5) = (J 0) then lt (si v a0 5 (J 1)) fun w2 => (F_tx_advance N a0 S w2).bind fun w3 => (if (gi w3 a0 8) = (J 2) then (F_gc_isPrescale N (gi w3 a0 11) S w3).bind fun x4 => (if x4 = (J 0) then (F_tx_fail a0 (J 2) S w3).bind fun (x5, w6) => grd (narrow .boolean (.int x5) = .int x5) <| some ((x5, w6)) else K_tx_readPrescale_46 N  S w3 a0) else K_tx_readPrescale_46 N  S w3 a0) else (F_tx_fail a0 (J 3) S v).bind fun (x18, w19) => grd (narrow .boolean (.int x18) = .int x18) <| some ((x18, w19)))
theorem ok_tx_readPrescale (N : Nat) (a0 : Nat) (S : shp) (v : vl) : SimK B_tx_readPrescale 0 (entB (bN B_tx_readPrescale) [.ref a0]) [] S v (F_tx_readPrescale N a0 S v) (ρpi S) := by
  show SimK B_tx_readPrescale 0 [some (.ref a0)] [] S v (F_tx_readPrescale N a0 S v) _
  unfold F_tx_readPrescale
  refine sim_grd fun h1 => ?_
  refine sim_seg [(.aload_n 0, 0, 0, 0), (.getfield 35, 2, 5, 0)] [] (q := 4) (L' := [some (.ref a0)]) (st' := [.int (gi v a0 5)]) (v1 := v) (by decide +kernel) rfl ⟨h1, trivial⟩ ?_
  refine sim_eq0 (o := 9) (tg := 13) (f := 7) (by decide +kernel) rfl rfl (fun _ => ?_) (fun _ => ?_)
  · refine sim_seg [(.aload_n 0, 0, 0, 0), (.iconst 1, 0, 0, 1), (.putfield 35, 2, 5, 0), (.aload_n 0, 0, 0, 0)] [] (q := 19) (L' := [some (.ref a0)]) (st' := [.ref a0]) (v1 := (si v a0 5 (J 1))) (by decide +kernel) rfl ⟨⟨h1, by decide⟩, trivial⟩ ?_
    refine sim_lt (x := (si v a0 5 (J 1))) ?_
    generalize (si v a0 5 (J 1)) = w2
    refine sc_pv (pc3 := 22) (cf_V (idx := 48) (ci := 2) [] m_tx_advance (by decide) ⟨by decide, by decide⟩ (List.mem_of_getElem? (i := 366) (by decide +kernel)) rfl (Nat.le_of_ble_eq_true rfl) h1 (by decide +kernel) (Nat.le_of_ble_eq_true rfl) rfl) (ok_tx_advance N a0 S w2) rfl (fun w3 => ?_)
    refine sim_seg [(.aload_n 0, 0, 0, 0), (.getfield 65, 2, 8, 0), (.iconst 2, 0, 0, 2)] [] (q := 27) (L' := [some (.ref a0)]) (st' := [.int (J 2), .int (gi w3 a0 8)]) (v1 := w3) (by decide +kernel) rfl ⟨h1, trivial⟩ ?_
    refine sim_ne (o := 19) (tg := 46) (f := 30) (by decide +kernel) rfl rfl (fun _ => ?_) (fun _ => ?_)
    · refine sim_seg [(.aload_n 0, 0, 0, 0), (.getfield 117, 2, 11, 0)] [] (q := 34) (L' := [some (.ref a0)]) (st' := [.int (gi w3 a0 11)]) (v1 := w3) (by decide +kernel) rfl ⟨h1, trivial⟩ ?_
      refine sc_ri (pc3 := 37) (cf_SN (idx := 120) (host := "GateCounter") [.int (gi w3 a0 11)] m_gc_isPrescale ⟨by decide, by decide⟩ (by decide +kernel) rfl (Nat.le_of_ble_eq_true rfl) (by decide +kernel) (Nat.le_of_ble_eq_true rfl) rfl) (ok_gc_isPrescale N (gi w3 a0 11) S w3) rfl (fun x4 => ?_)
      refine sim_ne0 (o := 9) (tg := 46) (f := 40) (by decide +kernel) rfl rfl (fun _ => ?_) (fun _ => ?_)
      · refine sim_seg [(.aload_n 0, 0, 0, 0), (.iconst 2, 0, 0, 2)] [] (q := 42) (L' := [some (.ref a0)]) (st' := [.int (J 2), .ref a0]) (v1 := w3) (by decide +kernel) rfl trivial ?_
        refine sc_pi (pc3 := 45) (cf_V (idx := 61) (ci := 2) [.int (J 2)] m_tx_fail (by decide) ⟨by decide, by decide⟩ (List.mem_of_getElem? (i := 444) (by decide +kernel)) rfl (Nat.le_of_ble_eq_true rfl) h1 (by decide +kernel) (Nat.le_of_ble_eq_true rfl) rfl) (ok_tx_fail a0 (J 2) S w3) rfl (fun x5 w6 => ?_)
        refine sim_grd fun h7 => ?_
        exact sim_iret (by decide +kernel) rfl h7 rfl
      · exact sK_tx_readPrescale_46 N S w3 a0
    · exact sK_tx_readPrescale_46 N S w3 a0
  · refine sim_seg [(.aload_n 0, 0, 0, 0), (.iconst 3, 0, 0, 3)] [] (q := 9) (L' := [some (.ref a0)]) (st' := [.int (J 3), .ref a0]) (v1 := v) (by decide +kernel) rfl trivial ?_
    refine sc_pi (pc3 := 12) (cf_V (idx := 61) (ci := 2) [.int (J 3)] m_tx_fail (by decide) ⟨by decide, by decide⟩ (List.mem_of_getElem? (i := 444) (by decide +kernel)) rfl (Nat.le_of_ble_eq_true rfl) h1 (by decide +kernel) (Nat.le_of_ble_eq_true rfl) rfl) (ok_tx_fail a0 (J 3) S v) rfl (fun x18 w19 => ?_)
    refine sim_grd fun h20 => ?_
    exact sim_iret (by decide +kernel) rfl h20 rfl
def B_sg_append : bd := (⟨"GateCounter$Signal", "append", "(II)V"⟩, prog_5_method_8_code, 3, none, [], 3, 0)
theorem m_sg_append : mV B_sg_append 3 2 := ⟨⟨⟨by decide +kernel, Or.inl rfl⟩, rfl, (List.mem_of_getElem? (i := 497) (by decide +kernel)), by decide +kernel, (List.mem_of_getElem? (i := 61) (by decide +kernel)), ⟨by decide, by decide⟩, by decide⟩, rfl, (by unfold nar; decide +kernel), (List.mem_of_getElem? (i := 495) (by decide +kernel)), rfl, (List.mem_of_getElem? (i := 496) (by decide +kernel))⟩
noncomputable def F_sg_append (a0 : Nat) (b1 : Int32) (b2 : Int32) (S : shp) (v : vl) : Option vl :=
  grd (kin S a0 = some (0, 3)) <| (if (gi v a0 8) < (J 8) then (gr S a0 10).bind fun r2 => grd (kin S r2 = some (1, 8)) <| grd (vp_in (gi v a0 8) (alen S r2)) <| lt (si v r2 (Int32.toNatClampNeg (gi v a0 8)) b1) fun w6 => (gr S a0 11).bind fun r7 => grd (kin S r7 = some (1, 8)) <| grd (vp_in (gi w6 a0 8) (alen S r7)) <| lt (si w6 r7 (Int32.toNatClampNeg (gi w6 a0 8)) b2) fun w11 => lt (si w11 a0 8 ((gi w11 a0 8) + (J 1))) fun w12 => some (w12) else some (v))
theorem ok_sg_append (a0 : Nat) (b1 : Int32) (b2 : Int32) (S : shp) (v : vl) : SimK B_sg_append 0 (entB (bN B_sg_append) [.ref a0, .int b1, .int b2]) [] S v (F_sg_append a0 b1 b2 S v) (ρpv S) := by
  show SimK B_sg_append 0 [some (.ref a0), some (.int b1), some (.int b2)] [] S v (F_sg_append a0 b1 b2 S v) _
  unfold F_sg_append
  refine sim_grd fun h1 => ?_
  refine sim_seg [(.aload_n 0, 0, 0, 0), (.getfield 35, 3, 8, 0), (.bipush 8, 0, 0, 8)] [] (q := 6) (L' := [some (.ref a0), some (.int b1), some (.int b2)]) (st' := [.int (J 8), .int (gi v a0 8)]) (v1 := v) (by decide +kernel) rfl ⟨h1, trivial⟩ ?_
  refine sim_ge (o := 33) (tg := 39) (f := 9) (by decide +kernel) rfl rfl (fun _ => ?_) (fun _ => ?_)
  · refine sim_bind fun r2 h3 => ?_
    refine sim_grd fun h4 => ?_
    refine sim_grd fun h5 => ?_
    refine sim_seg [(.aload_n 0, 0, 0, 0), (.getfield 9, 3, 10, 0), (.aload_n 0, 0, 0, 0), (.getfield 35, 3, 8, 0), (.iload_n 1, 0, 0, 0), (.iastore, 0, 0, 0), (.aload_n 0, 0, 0, 0)] [r2] (q := 20) (L' := [some (.ref a0), some (.int b1), some (.int b2)]) (st' := [.ref a0]) (v1 := (si v r2 (Int32.toNatClampNeg (gi v a0 8)) b1)) (by decide +kernel) rfl ⟨⟨h1, h3⟩, h1, ⟨(kin_alen h4), h5⟩, trivial⟩ ?_
    refine sim_lt (x := (si v r2 (Int32.toNatClampNeg (gi v a0 8)) b1)) ?_
    generalize (si v r2 (Int32.toNatClampNeg (gi v a0 8)) b1) = w6
    refine sim_bind fun r7 h8 => ?_
    refine sim_grd fun h9 => ?_
    refine sim_grd fun h10 => ?_
    refine sim_seg [(.getfield 15, 3, 11, 0), (.aload_n 0, 0, 0, 0), (.getfield 35, 3, 8, 0), (.iload_n 2, 0, 0, 0), (.iastore, 0, 0, 0), (.aload_n 0, 0, 0, 0), (.dup, 0, 0, 0)] [r7] (q := 31) (L' := [some (.ref a0), some (.int b1), some (.int b2)]) (st' := [.ref a0, .ref a0]) (v1 := (si w6 r7 (Int32.toNatClampNeg (gi w6 a0 8)) b2)) (by decide +kernel) rfl ⟨⟨h1, h8⟩, h1, ⟨(kin_alen h9), h10⟩, trivial⟩ ?_
    refine sim_lt (x := (si w6 r7 (Int32.toNatClampNeg (gi w6 a0 8)) b2)) ?_
    generalize (si w6 r7 (Int32.toNatClampNeg (gi w6 a0 8)) b2) = w11
    refine sim_seg [(.getfield 35, 3, 8, 0), (.iconst 1, 0, 0, 1), (.iadd, 0, 0, 0), (.putfield 35, 3, 8, 0)] [] (q := 39) (L' := [some (.ref a0), some (.int b1), some (.int b2)]) (st' := []) (v1 := (si w11 a0 8 ((gi w11 a0 8) + (J 1)))) (by decide +kernel) rfl ⟨h1, h1, trivial⟩ ?_
    refine sim_lt (x := (si w11 a0 8 ((gi w11 a0 8) + (J 1)))) ?_
    generalize (si w11 a0 8 ((gi w11 a0 8) + (J 1))) = w12
    exact sim_vret (by decide +kernel) rfl rfl
  · exact sim_vret (by decide +kernel) rfl rfl
def B_sg_lastTime : bd := (⟨"GateCounter$Signal", "lastTime", "()I"⟩, prog_5_method_7_code, 1, (some .int), [], 3, 0)
theorem m_sg_lastTime : mV B_sg_lastTime 3 0 := ⟨⟨⟨by decide +kernel, Or.inl rfl⟩, rfl, (List.mem_of_getElem? (i := 492) (by decide +kernel)), by decide +kernel, (List.mem_of_getElem? (i := 61) (by decide +kernel)), ⟨by decide, by decide⟩, by decide⟩, rfl, (by unfold nar; decide +kernel), (List.mem_of_getElem? (i := 490) (by decide +kernel)), rfl, (List.mem_of_getElem? (i := 491) (by decide +kernel))⟩
noncomputable def F_sg_lastTime (a0 : Nat) (S : shp) (v : vl) : Option Int32 :=
  grd (kin S a0 = some (0, 3)) <| (if (J 0) < (gi v a0 8) then (gr S a0 10).bind fun r2 => grd (kin S r2 = some (1, 8)) <| grd (vp_in ((gi v a0 8) - (J 1)) (alen S r2)) <| some ((gi v r2 (Int32.toNatClampNeg ((gi v a0 8) - (J 1))))) else some ((J (-1))))
theorem ok_sg_lastTime (a0 : Nat) (S : shp) (v : vl) : SimK B_sg_lastTime 0 (entB (bN B_sg_lastTime) [.ref a0]) [] S v (F_sg_lastTime a0 S v) (ρri S v) := by
  show SimK B_sg_lastTime 0 [some (.ref a0)] [] S v (F_sg_lastTime a0 S v) _
  unfold F_sg_lastTime
  refine sim_grd fun h1 => ?_
  refine sim_seg [(.aload_n 0, 0, 0, 0), (.getfield 35, 3, 8, 0)] [] (q := 4) (L' := [some (.ref a0)]) (st' := [.int (gi v a0 8)]) (v1 := v) (by decide +kernel) rfl ⟨h1, trivial⟩ ?_
  refine sim_le0 (o := 17) (tg := 21) (f := 7) (by decide +kernel) rfl rfl (fun _ => ?_) (fun _ => ?_)
  · refine sim_bind fun r2 h3 => ?_
    refine sim_grd fun h4 => ?_
    refine sim_grd fun h5 => ?_
    refine sim_seg [(.aload_n 0, 0, 0, 0), (.getfield 9, 3, 10, 0), (.aload_n 0, 0, 0, 0), (.getfield 35, 3, 8, 0), (.iconst 1, 0, 0, 1), (.isub, 0, 0, 0), (.iaload, 0, 0, 0), (.goto 4, 0, 0, 0)] [r2] (q := 22) (L' := [some (.ref a0)]) (st' := [.int (gi v r2 (Int32.toNatClampNeg ((gi v a0 8) - (J 1))))]) (v1 := v) (by decide +kernel) rfl ⟨⟨h1, h3⟩, h1, ⟨(Or.inl (kin_alen h4)), h5⟩, trivial⟩ ?_
    exact sim_iret (by decide +kernel) rfl rfl rfl
  · refine sim_seg [(.iconst (-1), 0, 0, (-1))] [] (q := 22) (L' := [some (.ref a0)]) (st' := [.int (J (-1))]) (v1 := v) (by decide +kernel) rfl trivial ?_
    exact sim_iret (by decide +kernel) rfl rfl rfl
def B_tx_readSignal : bd := (⟨"GateCounter$SetupText", "readSignal", "()Z"⟩, prog_4_method_9_code, 2, (some .boolean), [], 2, 4)
theorem m_tx_readSignal : mV B_tx_readSignal 2 0 := ⟨⟨⟨by decide +kernel, Or.inl rfl⟩, rfl, (List.mem_of_getElem? (i := 488) (by decide +kernel)), by decide +kernel, (List.mem_of_getElem? (i := 58) (by decide +kernel)), ⟨by decide, by decide⟩, by decide⟩, rfl, (by unfold nar; decide +kernel), (List.mem_of_getElem? (i := 487) (by decide +kernel)), rfl, (List.mem_of_getElem? (i := 17) (by decide +kernel))⟩
noncomputable def K_tx_readSignal_56 (N : Nat)  (S : shp) (v : vl) (p0 : Nat) : Option (Int32 × vl) :=
  grd (kin S p0 = some (0, 2)) <| (F_tx_takeNumber N p0 (J 0) (J 999999) S v).bind fun (x11, w12) => (if x11 = (J 0) then some (((J 0), w12)) else (F_tx_takeNumber N p0 (J 0) (J 9999) S w12).bind fun (x13, w14) => (if x13 = (J 0) then some (((J 0), w14)) else (gr S p0 4).bind fun r15 => grd (kin S r15 = some (0, 4)) <| (gr S r15 7).bind fun r18 => grd (kin S r18 = some (0, 3)) <| (F_sg_append r18 (gi w12 p0 12) (gi w14 p0 12) S w14).bind fun w21 => some (((J 1), w21))))
theorem sK_tx_readSignal_56 (N : Nat)   (S : shp) (v : vl) (p0 : Nat) : SimK B_tx_readSignal 56 [some (.ref p0), none] [] S v (K_tx_readSignal_56 N  S v p0) (ρpi S) := by
  unfold K_tx_readSignal_56
  refine sim_seg [(.aload_n 0, 0, 0, 0), (.iconst 0, 0, 0, 0), (.ldc 145, 0, 0, 999999)] [] (q := 60) (L' := [some (.ref p0), none]) (st' := [.int (J 999999), .int (J 0), .ref p0]) (v1 := v) (by decide +kernel) rfl trivial ?_
  refine sim_grd fun h10 => ?_
  refine sc_pi (pc3 := 63) (cf_V (idx := 71) (ci := 2) [.int (J 0), .int (J 999999)] m_tx_takeNumber (by decide) ⟨by decide, by decide⟩ (List.mem_of_getElem? (i := 440) (by decide +kernel)) rfl (Nat.le_of_ble_eq_true rfl) h10 (by decide +kernel) (Nat.le_of_ble_eq_true rfl) rfl) (ok_tx_takeNumber N p0 (J 0) (J 999999) S v) rfl (fun x11 w12 => ?_)
  refine sim_ne0 (o := 5) (tg := 68) (f := 66) (by decide +kernel) rfl rfl (fun _ => ?_) (fun _ => ?_)
  · refine sim_seg [(.iconst 0, 0, 0, 0)] [] (q := 67) (L' := [some (.ref p0), none]) (st' := [.int (J 0)]) (v1 := w12) (by decide +kernel) rfl trivial ?_
    exact sim_iret (by decide +kernel) rfl (by decide) rfl
  · refine sim_seg [(.aload_n 0, 0, 0, 0), (.getfield 75, 2, 12, 0), (.istore_n 1, 0, 0, 0)] [] (q := 73) (L' := [some (.ref p0), some (.int (gi w12 p0 12))]) (st' := []) (v1 := w12) (by decide +kernel) rfl ⟨h10, trivial⟩ ?_
    refine sim_seg [(.aload_n 0, 0, 0, 0), (.iconst 0, 0, 0, 0), (.sipush 9999, 0, 0, 9999)] [] (q := 78) (L' := [some (.ref p0), some (.int (gi w12 p0 12))]) (st' := [.int (J 9999), .int (J 0), .ref p0]) (v1 := w12) (by decide +kernel) rfl trivial ?_
    refine sc_pi (pc3 := 81) (cf_V (idx := 71) (ci := 2) [.int (J 0), .int (J 9999)] m_tx_takeNumber (by decide) ⟨by decide, by decide⟩ (List.mem_of_getElem? (i := 440) (by decide +kernel)) rfl (Nat.le_of_ble_eq_true rfl) h10 (by decide +kernel) (Nat.le_of_ble_eq_true rfl) rfl) (ok_tx_takeNumber N p0 (J 0) (J 9999) S w12) rfl (fun x13 w14 => ?_)
    refine sim_ne0 (o := 5) (tg := 86) (f := 84) (by decide +kernel) rfl rfl (fun _ => ?_) (fun _ => ?_)
    · refine sim_seg [(.iconst 0, 0, 0, 0)] [] (q := 85) (L' := [some (.ref p0), some (.int (gi w12 p0 12))]) (st' := [.int (J 0)]) (v1 := w14) (by decide +kernel) rfl trivial ?_
      exact sim_iret (by decide +kernel) rfl (by decide) rfl
    · refine sim_bind fun r15 h16 => ?_
      refine sim_grd fun h17 => ?_
      refine sim_bind fun r18 h19 => ?_
      refine sim_seg [(.aload_n 0, 0, 0, 0), (.getfield 18, 2, 4, 0), (.getfield 123, 4, 7, 0), (.iload_n 1, 0, 0, 0), (.aload_n 0, 0, 0, 0), (.getfield 75, 2, 12, 0)] [r15, r18] (q := 98) (L' := [some (.ref p0), some (.int (gi w12 p0 12))]) (st' := [.int (gi w14 p0 12), .int (gi w12 p0 12), .ref r18]) (v1 := w14) (by decide +kernel) rfl ⟨⟨h10, h16⟩, ⟨h17, h19⟩, h10, trivial⟩ ?_
      refine sim_grd fun h20 => ?_
      refine sc_pv (pc3 := 101) (cf_V (idx := 146) (ci := 3) [.int (gi w12 p0 12), .int (gi w14 p0 12)] m_sg_append (by decide) ⟨by decide, by decide⟩ (List.mem_of_getElem? (i := 494) (by decide +kernel)) rfl (Nat.le_of_ble_eq_true rfl) h20 (by decide +kernel) (Nat.le_of_ble_eq_true rfl) rfl) (ok_sg_append r18 (gi w12 p0 12) (gi w14 p0 12) S w14) rfl (fun w21 => ?_)
      refine sim_seg [(.iconst 1, 0, 0, 1)] [] (q := 102) (L' := [some (.ref p0), some (.int (gi w12 p0 12))]) (st' := [.int (J 1)]) (v1 := w21) (by decide +kernel) rfl trivial ?_
      exact sim_iret (by decide +kernel) rfl (by decide) rfl
noncomputable def F_tx_readSignal (N : Nat) (a0 : Nat) (S : shp) (v : vl) : Option (Int32 × vl) :=
  grd (kin S a0 = some (0, 2)) <| (gr S a0 4).bind fun r2 => grd (kin S r2 = some (0, 4)) <| (gr S r2 7).bind fun r5 => grd (kin S r5 = some (0, 3)) <| (if (gi v r5 8) < (J 8) then (F_tx_advance N a0 S v).bind fun w8 => (if (gi w8 a0 8) = (J 2) then (F_sg_lastTime r5 S w8).bind fun x9 => (if x9 < (gi w8 a0 11) then K_tx_readSignal_56 N  S w8 a0 else (F_tx_fail a0 (J 4) S w8).bind fun (x22, w23) => grd (narrow .boolean (.int x22) = .int x22) <| some ((x22, w23))) else K_tx_readSignal_56 N  S w8 a0) else (F_tx_fail a0 (J 5) S v).bind fun (x25, w26) => grd (narrow .boolean (.int x25) = .int x25) <| some ((x25, w26)))
theorem ok_tx_readSignal (N : Nat) (a0 : Nat) (S : shp) (v : vl) : SimK B_tx_readSignal 0 (entB (bN B_tx_readSignal) [.ref a0]) [] S v (F_tx_readSignal N a0 S v) (ρpi S) := by
  show SimK B_tx_readSignal 0 [some (.ref a0), none] [] S v (F_tx_readSignal N a0 S v) _
  unfold F_tx_readSignal
  refine sim_grd fun h1 => ?_
  refine sim_bind fun r2 h3 => ?_
  refine sim_grd fun h4 => ?_
  refine sim_bind fun r5 h6 => ?_
  refine sim_grd fun h7 => ?_
  refine sim_seg [(.aload_n 0, 0, 0, 0), (.getfield 18, 2, 4, 0), (.getfield 123, 4, 7, 0), (.getfield 138, 3, 8, 0), (.bipush 8, 0, 0, 8)] [r2, r5] (q := 12) (L' := [some (.ref a0), none]) (st' := [.int (J 8), .int (gi v r5 8)]) (v1 := v) (by decide +kernel) rfl ⟨⟨h1, h3⟩, ⟨h4, h6⟩, h7, trivial⟩ ?_
  refine sim_lt' (o := 9) (tg := 21) (f := 15) (by decide +kernel) rfl rfl (fun _ => ?_) (fun _ => ?_)
  · refine sim_seg [(.aload_n 0, 0, 0, 0)] [] (q := 22) (L' := [some (.ref a0), none]) (st' := [.ref a0]) (v1 := v) (by decide +kernel) rfl trivial ?_
    refine sc_pv (pc3 := 25) (cf_V (idx := 48) (ci := 2) [] m_tx_advance (by decide) ⟨by decide, by decide⟩ (List.mem_of_getElem? (i := 366) (by decide +kernel)) rfl (Nat.le_of_ble_eq_true rfl) h1 (by decide +kernel) (Nat.le_of_ble_eq_true rfl) rfl) (ok_tx_advance N a0 S v) rfl (fun w8 => ?_)
    refine sim_seg [(.aload_n 0, 0, 0, 0), (.getfield 65, 2, 8, 0), (.iconst 2, 0, 0, 2)] [] (q := 30) (L' := [some (.ref a0), none]) (st' := [.int (J 2), .int (gi w8 a0 8)]) (v1 := w8) (by decide +kernel) rfl ⟨h1, trivial⟩ ?_
    refine sim_ne (o := 26) (tg := 56) (f := 33) (by decide +kernel) rfl rfl (fun _ => ?_) (fun _ => ?_)
    · refine sim_seg [(.aload_n 0, 0, 0, 0), (.getfield 117, 2, 11, 0), (.aload_n 0, 0, 0, 0), (.getfield 18, 2, 4, 0), (.getfield 123, 4, 7, 0)] [r2, r5] (q := 44) (L' := [some (.ref a0), none]) (st' := [.ref r5, .int (gi w8 a0 11)]) (v1 := w8) (by decide +kernel) rfl ⟨h1, ⟨h1, h3⟩, ⟨h4, h6⟩, trivial⟩ ?_
      refine sc_ri (pc3 := 47) (cf_V (idx := 141) (ci := 3) [] m_sg_lastTime (by decide) ⟨by decide, by decide⟩ (List.mem_of_getElem? (i := 489) (by decide +kernel)) rfl (Nat.le_of_ble_eq_true rfl) h7 (by decide +kernel) (Nat.le_of_ble_eq_true rfl) rfl) (ok_sg_lastTime r5 S w8) rfl (fun x9 => ?_)
      refine sim_gt (o := 9) (tg := 56) (f := 50) (by decide +kernel) rfl rfl (fun _ => ?_) (fun _ => ?_)
      · exact sK_tx_readSignal_56 N S w8 a0
      · refine sim_seg [(.aload_n 0, 0, 0, 0), (.iconst 4, 0, 0, 4)] [] (q := 52) (L' := [some (.ref a0), none]) (st' := [.int (J 4), .ref a0]) (v1 := w8) (by decide +kernel) rfl trivial ?_
        refine sc_pi (pc3 := 55) (cf_V (idx := 61) (ci := 2) [.int (J 4)] m_tx_fail (by decide) ⟨by decide, by decide⟩ (List.mem_of_getElem? (i := 444) (by decide +kernel)) rfl (Nat.le_of_ble_eq_true rfl) h1 (by decide +kernel) (Nat.le_of_ble_eq_true rfl) rfl) (ok_tx_fail a0 (J 4) S w8) rfl (fun x22 w23 => ?_)
        refine sim_grd fun h24 => ?_
        exact sim_iret (by decide +kernel) rfl h24 rfl
    · exact sK_tx_readSignal_56 N S w8 a0
  · refine sim_seg [(.aload_n 0, 0, 0, 0), (.iconst 5, 0, 0, 5)] [] (q := 17) (L' := [some (.ref a0), none]) (st' := [.int (J 5), .ref a0]) (v1 := v) (by decide +kernel) rfl trivial ?_
    refine sc_pi (pc3 := 20) (cf_V (idx := 61) (ci := 2) [.int (J 5)] m_tx_fail (by decide) ⟨by decide, by decide⟩ (List.mem_of_getElem? (i := 444) (by decide +kernel)) rfl (Nat.le_of_ble_eq_true rfl) h1 (by decide +kernel) (Nat.le_of_ble_eq_true rfl) rfl) (ok_tx_fail a0 (J 5) S v) rfl (fun x25 w26 => ?_)
    refine sim_grd fun h27 => ?_
    exact sim_iret (by decide +kernel) rfl h27 rfl
def B_tx_readStatement : bd := (⟨"GateCounter$SetupText", "readStatement", "()Z"⟩, prog_4_method_5_code, 1, (some .boolean), [], 2, 5)
theorem m_tx_readStatement : mV B_tx_readStatement 2 0 := ⟨⟨⟨by decide +kernel, Or.inl rfl⟩, rfl, (List.mem_of_getElem? (i := 462) (by decide +kernel)), by decide +kernel, (List.mem_of_getElem? (i := 58) (by decide +kernel)), ⟨by decide, by decide⟩, by decide⟩, rfl, (by unfold nar; decide +kernel), (List.mem_of_getElem? (i := 461) (by decide +kernel)), rfl, (List.mem_of_getElem? (i := 13) (by decide +kernel))⟩
noncomputable def F_tx_readStatement (N : Nat) (a0 : Nat) (S : shp) (v : vl) : Option (Int32 × vl) :=
  grd (kin S a0 = some (0, 2)) <| (F_tx_isWord N a0 (kad S 13) S v).bind fun x2 => (if x2 = (J 0) then (F_tx_isWord N a0 (kad S 14) S v).bind fun x3 => (if x3 = (J 0) then (F_tx_isWord N a0 (kad S 15) S v).bind fun x4 => (if x4 = (J 0) then (F_tx_isWord N a0 (kad S 16) S v).bind fun x5 => (if x5 = (J 0) then (F_tx_fail a0 (J 1) S v).bind fun (x6, w7) => grd (narrow .boolean (.int x6) = .int x6) <| some ((x6, w7)) else (F_tx_readSignal N a0 S v).bind fun (x9, w10) => (if x9 = (J 0) then some (((J 0), w10)) else (F_tx_takeSemicolon N a0 S w10).bind fun (x11, w12) => (if x11 = (J 0) then some (((J 0), w12)) else some (((J 1), w12))))) else (F_tx_readPeriods N a0 S v).bind fun (x13, w14) => (if x13 = (J 0) then some (((J 0), w14)) else (F_tx_takeSemicolon N a0 S w14).bind fun (x15, w16) => (if x15 = (J 0) then some (((J 0), w16)) else some (((J 1), w16))))) else (F_tx_readGate N a0 S v).bind fun (x17, w18) => (if x17 = (J 0) then some (((J 0), w18)) else (F_tx_takeSemicolon N a0 S w18).bind fun (x19, w20) => (if x19 = (J 0) then some (((J 0), w20)) else some (((J 1), w20))))) else (F_tx_readPrescale N a0 S v).bind fun (x21, w22) => (if x21 = (J 0) then some (((J 0), w22)) else (F_tx_takeSemicolon N a0 S w22).bind fun (x23, w24) => (if x23 = (J 0) then some (((J 0), w24)) else some (((J 1), w24)))))
theorem ok_tx_readStatement (N : Nat) (a0 : Nat) (S : shp) (v : vl) : SimK B_tx_readStatement 0 (entB (bN B_tx_readStatement) [.ref a0]) [] S v (F_tx_readStatement N a0 S v) (ρpi S) := by
  show SimK B_tx_readStatement 0 [some (.ref a0)] [] S v (F_tx_readStatement N a0 S v) _
  unfold F_tx_readStatement
  refine sim_seg [(.aload_n 0, 0, 0, 0)] [] (q := 1) (L' := [some (.ref a0)]) (st' := [.ref a0]) (v1 := v) (by decide +kernel) rfl trivial ?_
  refine sim_ldcs (idx := 97) (j := 13) (tx := "prescale") (pc3 := 3) (by decide +kernel) (by decide +kernel) rfl ?_
  refine sim_grd fun h1 => ?_
  refine sc_ri (pc3 := 6) (cf_V (idx := 53) (ci := 2) [.ref (kad S 13)] m_tx_isWord (by decide) ⟨by decide, by decide⟩ (List.mem_of_getElem? (i := 385) (by decide +kernel)) rfl (Nat.le_of_ble_eq_true rfl) h1 (by decide +kernel) (Nat.le_of_ble_eq_true rfl) rfl) (ok_tx_isWord N a0 (kad S 13) S v) rfl (fun x2 => ?_)
  refine sim_eq0 (o := 23) (tg := 29) (f := 9) (by decide +kernel) rfl rfl (fun _ => ?_) (fun _ => ?_)
  · refine sim_seg [(.aload_n 0, 0, 0, 0)] [] (q := 30) (L' := [some (.ref a0)]) (st' := [.ref a0]) (v1 := v) (by decide +kernel) rfl trivial ?_
    refine sim_ldcs (idx := 102) (j := 14) (tx := "gate") (pc3 := 32) (by decide +kernel) (by decide +kernel) rfl ?_
    refine sc_ri (pc3 := 35) (cf_V (idx := 53) (ci := 2) [.ref (kad S 14)] m_tx_isWord (by decide) ⟨by decide, by decide⟩ (List.mem_of_getElem? (i := 385) (by decide +kernel)) rfl (Nat.le_of_ble_eq_true rfl) h1 (by decide +kernel) (Nat.le_of_ble_eq_true rfl) rfl) (ok_tx_isWord N a0 (kad S 14) S v) rfl (fun x3 => ?_)
    refine sim_eq0 (o := 23) (tg := 58) (f := 38) (by decide +kernel) rfl rfl (fun _ => ?_) (fun _ => ?_)
    · refine sim_seg [(.aload_n 0, 0, 0, 0)] [] (q := 59) (L' := [some (.ref a0)]) (st' := [.ref a0]) (v1 := v) (by decide +kernel) rfl trivial ?_
      refine sim_ldcs (idx := 107) (j := 15) (tx := "periods") (pc3 := 61) (by decide +kernel) (by decide +kernel) rfl ?_
      refine sc_ri (pc3 := 64) (cf_V (idx := 53) (ci := 2) [.ref (kad S 15)] m_tx_isWord (by decide) ⟨by decide, by decide⟩ (List.mem_of_getElem? (i := 385) (by decide +kernel)) rfl (Nat.le_of_ble_eq_true rfl) h1 (by decide +kernel) (Nat.le_of_ble_eq_true rfl) rfl) (ok_tx_isWord N a0 (kad S 15) S v) rfl (fun x4 => ?_)
      refine sim_eq0 (o := 23) (tg := 87) (f := 67) (by decide +kernel) rfl rfl (fun _ => ?_) (fun _ => ?_)
      · refine sim_seg [(.aload_n 0, 0, 0, 0)] [] (q := 88) (L' := [some (.ref a0)]) (st' := [.ref a0]) (v1 := v) (by decide +kernel) rfl trivial ?_
        refine sim_ldcs (idx := 112) (j := 16) (tx := "signal") (pc3 := 90) (by decide +kernel) (by decide +kernel) rfl ?_
        refine sc_ri (pc3 := 93) (cf_V (idx := 53) (ci := 2) [.ref (kad S 16)] m_tx_isWord (by decide) ⟨by decide, by decide⟩ (List.mem_of_getElem? (i := 385) (by decide +kernel)) rfl (Nat.le_of_ble_eq_true rfl) h1 (by decide +kernel) (Nat.le_of_ble_eq_true rfl) rfl) (ok_tx_isWord N a0 (kad S 16) S v) rfl (fun x5 => ?_)
        refine sim_eq0 (o := 23) (tg := 116) (f := 96) (by decide +kernel) rfl rfl (fun _ => ?_) (fun _ => ?_)
        · refine sim_seg [(.aload_n 0, 0, 0, 0), (.iconst 1, 0, 0, 1)] [] (q := 118) (L' := [some (.ref a0)]) (st' := [.int (J 1), .ref a0]) (v1 := v) (by decide +kernel) rfl trivial ?_
          refine sc_pi (pc3 := 121) (cf_V (idx := 61) (ci := 2) [.int (J 1)] m_tx_fail (by decide) ⟨by decide, by decide⟩ (List.mem_of_getElem? (i := 444) (by decide +kernel)) rfl (Nat.le_of_ble_eq_true rfl) h1 (by decide +kernel) (Nat.le_of_ble_eq_true rfl) rfl) (ok_tx_fail a0 (J 1) S v) rfl (fun x6 w7 => ?_)
          refine sim_grd fun h8 => ?_
          exact sim_iret (by decide +kernel) rfl h8 rfl
        · refine sim_seg [(.aload_n 0, 0, 0, 0)] [] (q := 97) (L' := [some (.ref a0)]) (st' := [.ref a0]) (v1 := v) (by decide +kernel) rfl trivial ?_
          refine sc_pi (pc3 := 100) (cf_V (idx := 114) (ci := 2) [] m_tx_readSignal (by decide) ⟨by decide, by decide⟩ (List.mem_of_getElem? (i := 485) (by decide +kernel)) rfl (Nat.le_of_ble_eq_true rfl) h1 (by decide +kernel) (Nat.le_of_ble_eq_true rfl) rfl) (ok_tx_readSignal N a0 S v) rfl (fun x9 w10 => ?_)
          refine sim_eq0 (o := 14) (tg := 114) (f := 103) (by decide +kernel) rfl rfl (fun _ => ?_) (fun _ => ?_)
          · refine sim_seg [(.iconst 0, 0, 0, 0)] [] (q := 115) (L' := [some (.ref a0)]) (st' := [.int (J 0)]) (v1 := w10) (by decide +kernel) rfl trivial ?_
            exact sim_iret (by decide +kernel) rfl (by decide) rfl
          · refine sim_seg [(.aload_n 0, 0, 0, 0)] [] (q := 104) (L' := [some (.ref a0)]) (st' := [.ref a0]) (v1 := w10) (by decide +kernel) rfl trivial ?_
            refine sc_pi (pc3 := 107) (cf_V (idx := 94) (ci := 2) [] m_tx_takeSemicolon (by decide) ⟨by decide, by decide⟩ (List.mem_of_getElem? (i := 455) (by decide +kernel)) rfl (Nat.le_of_ble_eq_true rfl) h1 (by decide +kernel) (Nat.le_of_ble_eq_true rfl) rfl) (ok_tx_takeSemicolon N a0 S w10) rfl (fun x11 w12 => ?_)
            refine sim_eq0 (o := 7) (tg := 114) (f := 110) (by decide +kernel) rfl rfl (fun _ => ?_) (fun _ => ?_)
            · refine sim_seg [(.iconst 0, 0, 0, 0)] [] (q := 115) (L' := [some (.ref a0)]) (st' := [.int (J 0)]) (v1 := w12) (by decide +kernel) rfl trivial ?_
              exact sim_iret (by decide +kernel) rfl (by decide) rfl
            · refine sim_seg [(.iconst 1, 0, 0, 1), (.goto 4, 0, 0, 0)] [] (q := 115) (L' := [some (.ref a0)]) (st' := [.int (J 1)]) (v1 := w12) (by decide +kernel) rfl trivial ?_
              exact sim_iret (by decide +kernel) rfl (by decide) rfl
      · refine sim_seg [(.aload_n 0, 0, 0, 0)] [] (q := 68) (L' := [some (.ref a0)]) (st' := [.ref a0]) (v1 := v) (by decide +kernel) rfl trivial ?_
        refine sc_pi (pc3 := 71) (cf_V (idx := 109) (ci := 2) [] m_tx_readPeriods (by decide) ⟨by decide, by decide⟩ (List.mem_of_getElem? (i := 480) (by decide +kernel)) rfl (Nat.le_of_ble_eq_true rfl) h1 (by decide +kernel) (Nat.le_of_ble_eq_true rfl) rfl) (ok_tx_readPeriods N a0 S v) rfl (fun x13 w14 => ?_)
        refine sim_eq0 (o := 14) (tg := 85) (f := 74) (by decide +kernel) rfl rfl (fun _ => ?_) (fun _ => ?_)
        · refine sim_seg [(.iconst 0, 0, 0, 0)] [] (q := 86) (L' := [some (.ref a0)]) (st' := [.int (J 0)]) (v1 := w14) (by decide +kernel) rfl trivial ?_
          exact sim_iret (by decide +kernel) rfl (by decide) rfl
        · refine sim_seg [(.aload_n 0, 0, 0, 0)] [] (q := 75) (L' := [some (.ref a0)]) (st' := [.ref a0]) (v1 := w14) (by decide +kernel) rfl trivial ?_
          refine sc_pi (pc3 := 78) (cf_V (idx := 94) (ci := 2) [] m_tx_takeSemicolon (by decide) ⟨by decide, by decide⟩ (List.mem_of_getElem? (i := 455) (by decide +kernel)) rfl (Nat.le_of_ble_eq_true rfl) h1 (by decide +kernel) (Nat.le_of_ble_eq_true rfl) rfl) (ok_tx_takeSemicolon N a0 S w14) rfl (fun x15 w16 => ?_)
          refine sim_eq0 (o := 7) (tg := 85) (f := 81) (by decide +kernel) rfl rfl (fun _ => ?_) (fun _ => ?_)
          · refine sim_seg [(.iconst 0, 0, 0, 0)] [] (q := 86) (L' := [some (.ref a0)]) (st' := [.int (J 0)]) (v1 := w16) (by decide +kernel) rfl trivial ?_
            exact sim_iret (by decide +kernel) rfl (by decide) rfl
          · refine sim_seg [(.iconst 1, 0, 0, 1), (.goto 4, 0, 0, 0)] [] (q := 86) (L' := [some (.ref a0)]) (st' := [.int (J 1)]) (v1 := w16) (by decide +kernel) rfl trivial ?_
            exact sim_iret (by decide +kernel) rfl (by decide) rfl
    · refine sim_seg [(.aload_n 0, 0, 0, 0)] [] (q := 39) (L' := [some (.ref a0)]) (st' := [.ref a0]) (v1 := v) (by decide +kernel) rfl trivial ?_
      refine sc_pi (pc3 := 42) (cf_V (idx := 104) (ci := 2) [] m_tx_readGate (by decide) ⟨by decide, by decide⟩ (List.mem_of_getElem? (i := 475) (by decide +kernel)) rfl (Nat.le_of_ble_eq_true rfl) h1 (by decide +kernel) (Nat.le_of_ble_eq_true rfl) rfl) (ok_tx_readGate N a0 S v) rfl (fun x17 w18 => ?_)
      refine sim_eq0 (o := 14) (tg := 56) (f := 45) (by decide +kernel) rfl rfl (fun _ => ?_) (fun _ => ?_)
      · refine sim_seg [(.iconst 0, 0, 0, 0)] [] (q := 57) (L' := [some (.ref a0)]) (st' := [.int (J 0)]) (v1 := w18) (by decide +kernel) rfl trivial ?_
        exact sim_iret (by decide +kernel) rfl (by decide) rfl
      · refine sim_seg [(.aload_n 0, 0, 0, 0)] [] (q := 46) (L' := [some (.ref a0)]) (st' := [.ref a0]) (v1 := w18) (by decide +kernel) rfl trivial ?_
        refine sc_pi (pc3 := 49) (cf_V (idx := 94) (ci := 2) [] m_tx_takeSemicolon (by decide) ⟨by decide, by decide⟩ (List.mem_of_getElem? (i := 455) (by decide +kernel)) rfl (Nat.le_of_ble_eq_true rfl) h1 (by decide +kernel) (Nat.le_of_ble_eq_true rfl) rfl) (ok_tx_takeSemicolon N a0 S w18) rfl (fun x19 w20 => ?_)
        refine sim_eq0 (o := 7) (tg := 56) (f := 52) (by decide +kernel) rfl rfl (fun _ => ?_) (fun _ => ?_)
        · refine sim_seg [(.iconst 0, 0, 0, 0)] [] (q := 57) (L' := [some (.ref a0)]) (st' := [.int (J 0)]) (v1 := w20) (by decide +kernel) rfl trivial ?_
          exact sim_iret (by decide +kernel) rfl (by decide) rfl
        · refine sim_seg [(.iconst 1, 0, 0, 1), (.goto 4, 0, 0, 0)] [] (q := 57) (L' := [some (.ref a0)]) (st' := [.int (J 1)]) (v1 := w20) (by decide +kernel) rfl trivial ?_
          exact sim_iret (by decide +kernel) rfl (by decide) rfl
  · refine sim_seg [(.aload_n 0, 0, 0, 0)] [] (q := 10) (L' := [some (.ref a0)]) (st' := [.ref a0]) (v1 := v) (by decide +kernel) rfl trivial ?_
    refine sc_pi (pc3 := 13) (cf_V (idx := 99) (ci := 2) [] m_tx_readPrescale (by decide) ⟨by decide, by decide⟩ (List.mem_of_getElem? (i := 464) (by decide +kernel)) rfl (Nat.le_of_ble_eq_true rfl) h1 (by decide +kernel) (Nat.le_of_ble_eq_true rfl) rfl) (ok_tx_readPrescale N a0 S v) rfl (fun x21 w22 => ?_)
    refine sim_eq0 (o := 14) (tg := 27) (f := 16) (by decide +kernel) rfl rfl (fun _ => ?_) (fun _ => ?_)
    · refine sim_seg [(.iconst 0, 0, 0, 0)] [] (q := 28) (L' := [some (.ref a0)]) (st' := [.int (J 0)]) (v1 := w22) (by decide +kernel) rfl trivial ?_
      exact sim_iret (by decide +kernel) rfl (by decide) rfl
    · refine sim_seg [(.aload_n 0, 0, 0, 0)] [] (q := 17) (L' := [some (.ref a0)]) (st' := [.ref a0]) (v1 := w22) (by decide +kernel) rfl trivial ?_
      refine sc_pi (pc3 := 20) (cf_V (idx := 94) (ci := 2) [] m_tx_takeSemicolon (by decide) ⟨by decide, by decide⟩ (List.mem_of_getElem? (i := 455) (by decide +kernel)) rfl (Nat.le_of_ble_eq_true rfl) h1 (by decide +kernel) (Nat.le_of_ble_eq_true rfl) rfl) (ok_tx_takeSemicolon N a0 S w22) rfl (fun x23 w24 => ?_)
      refine sim_eq0 (o := 7) (tg := 27) (f := 23) (by decide +kernel) rfl rfl (fun _ => ?_) (fun _ => ?_)
      · refine sim_seg [(.iconst 0, 0, 0, 0)] [] (q := 28) (L' := [some (.ref a0)]) (st' := [.int (J 0)]) (v1 := w24) (by decide +kernel) rfl trivial ?_
        exact sim_iret (by decide +kernel) rfl (by decide) rfl
      · refine sim_seg [(.iconst 1, 0, 0, 1), (.goto 4, 0, 0, 0)] [] (q := 28) (L' := [some (.ref a0)]) (st' := [.int (J 1)]) (v1 := w24) (by decide +kernel) rfl trivial ?_
        exact sim_iret (by decide +kernel) rfl (by decide) rfl
def B_tx_read : bd := (⟨"GateCounter$SetupText", "read", "()Z"⟩, prog_4_method_3_code, 3, (some .boolean), [], 2, 6)
theorem m_tx_read : mV B_tx_read 2 0 := ⟨⟨⟨by decide +kernel, Or.inl rfl⟩, rfl, (List.mem_of_getElem? (i := 364) (by decide +kernel)), by decide +kernel, (List.mem_of_getElem? (i := 58) (by decide +kernel)), ⟨by decide, by decide⟩, by decide⟩, rfl, (by unfold nar; decide +kernel), (List.mem_of_getElem? (i := 362) (by decide +kernel)), rfl, (List.mem_of_getElem? (i := 363) (by decide +kernel))⟩
noncomputable def Y_tx_read_65 (N : Nat)  (i65 : vl → Nat → Int32 → Int32 → Option (Int32 × vl)) (S : shp) (v : vl) (p0 : Nat) (p1 : Int32) (p2 : Int32) : Option (Int32 × vl) :=
  grd (kin S p0 = some (0, 2)) <| (if p2 < (gi v p0 1) then (if p1 = (J 0) then grd (narrow .boolean (.int p1) = .int p1) <| some ((p1, v)) else (if (gi v p0 8) = (J 0) then grd (narrow .boolean (.int p1) = .int p1) <| some ((p1, v)) else (F_tx_readStatement N p0 S v).bind fun (x15, w16) => i65 w16 p0 x15 (p2 + (J 1)))) else grd (narrow .boolean (.int p1) = .int p1) <| some ((p1, v)))
noncomputable def K_tx_read_65 (N : Nat)  (n : Nat) (S : shp) : vl → Nat → Int32 → Int32 → Option (Int32 × vl) :=
  Nat.rec (motive := fun _ => vl → Nat → Int32 → Int32 → Option (Int32 × vl)) (fun _ _ _ _ => none) (fun _ i => Y_tx_read_65 N  i S) n
theorem sY_tx_read_65 (N : Nat)  (i65 : vl → Nat → Int32 → Int32 → Option (Int32 × vl)) (S : shp)  (j65 : ∀ (v : vl) (p0 : Nat) (p1 : Int32) (p2 : Int32), SimK B_tx_read 65 [some (.ref p0), some (.int p1), some (.int p2)] [] S v (i65 v p0 p1 p2) (ρpi S)) (v : vl) (p0 : Nat) (p1 : Int32) (p2 : Int32) : SimK B_tx_read 65 [some (.ref p0), some (.int p1), some (.int p2)] [] S v (Y_tx_read_65 N  i65 S v p0 p1 p2) (ρpi S) := by
  unfold Y_tx_read_65
  refine sim_grd fun h12 => ?_
  refine sim_seg [(.iload_n 2, 0, 0, 0), (.aload_n 0, 0, 0, 0), (.getfield 26, 2, 1, 0)] [] (q := 70) (L' := [some (.ref p0), some (.int p1), some (.int p2)]) (st' := [.int (gi v p0 1), .int p2]) (v1 := v) (by decide +kernel) rfl ⟨h12, trivial⟩ ?_
  refine sim_ge (o := 25) (tg := 95) (f := 73) (by decide +kernel) rfl rfl (fun _ => ?_) (fun _ => ?_)
  · refine sim_seg [(.iload_n 1, 0, 0, 0)] [] (q := 74) (L' := [some (.ref p0), some (.int p1), some (.int p2)]) (st' := [.int p1]) (v1 := v) (by decide +kernel) rfl trivial ?_
    refine sim_eq0 (o := 21) (tg := 95) (f := 77) (by decide +kernel) rfl rfl (fun _ => ?_) (fun _ => ?_)
    · refine sim_seg [(.iload_n 1, 0, 0, 0)] [] (q := 96) (L' := [some (.ref p0), some (.int p1), some (.int p2)]) (st' := [.int p1]) (v1 := v) (by decide +kernel) rfl trivial ?_
      refine sim_grd fun h13 => ?_
      exact sim_iret (by decide +kernel) rfl h13 rfl
    · refine sim_seg [(.aload_n 0, 0, 0, 0), (.getfield 65, 2, 8, 0)] [] (q := 81) (L' := [some (.ref p0), some (.int p1), some (.int p2)]) (st' := [.int (gi v p0 8)]) (v1 := v) (by decide +kernel) rfl ⟨h12, trivial⟩ ?_
      refine sim_eq0 (o := 14) (tg := 95) (f := 84) (by decide +kernel) rfl rfl (fun _ => ?_) (fun _ => ?_)
      · refine sim_seg [(.iload_n 1, 0, 0, 0)] [] (q := 96) (L' := [some (.ref p0), some (.int p1), some (.int p2)]) (st' := [.int p1]) (v1 := v) (by decide +kernel) rfl trivial ?_
        refine sim_grd fun h14 => ?_
        exact sim_iret (by decide +kernel) rfl h14 rfl
      · refine sim_seg [(.aload_n 0, 0, 0, 0)] [] (q := 85) (L' := [some (.ref p0), some (.int p1), some (.int p2)]) (st' := [.ref p0]) (v1 := v) (by decide +kernel) rfl trivial ?_
        refine sc_pi (pc3 := 88) (cf_V (idx := 68) (ci := 2) [] m_tx_readStatement (by decide) ⟨by decide, by decide⟩ (List.mem_of_getElem? (i := 459) (by decide +kernel)) rfl (Nat.le_of_ble_eq_true rfl) h12 (by decide +kernel) (Nat.le_of_ble_eq_true rfl) rfl) (ok_tx_readStatement N p0 S v) rfl (fun x15 w16 => ?_)
        refine sim_seg [(.istore_n 1, 0, 0, 0)] [] (q := 89) (L' := [some (.ref p0), some (.int x15), some (.int p2)]) (st' := []) (v1 := w16) (by decide +kernel) rfl trivial ?_
        refine sim_seg [(.iinc 2 1, 0, 0, 1)] [] (q := 92) (L' := [some (.ref p0), some (.int x15), some (.int (p2 + (J 1)))]) (st' := []) (v1 := w16) (by decide +kernel) rfl trivial ?_
        refine sim_seg [(.goto (-27), 0, 0, 0)] [] (q := 65) (L' := [some (.ref p0), some (.int x15), some (.int (p2 + (J 1)))]) (st' := []) (v1 := w16) (by decide +kernel) rfl trivial ?_
        exact j65 w16 p0 x15 (p2 + (J 1))
  · refine sim_seg [(.iload_n 1, 0, 0, 0)] [] (q := 96) (L' := [some (.ref p0), some (.int p1), some (.int p2)]) (st' := [.int p1]) (v1 := v) (by decide +kernel) rfl trivial ?_
    refine sim_grd fun h17 => ?_
    exact sim_iret (by decide +kernel) rfl h17 rfl
theorem sR_tx_read_65 (N : Nat)  (S : shp)  (n : Nat) : ∀ (v : vl) (p0 : Nat) (p1 : Int32) (p2 : Int32), SimK B_tx_read 65 [some (.ref p0), some (.int p1), some (.int p2)] [] S v (K_tx_read_65 N  n S v p0 p1 p2) (ρpi S) := by
  induction n with
  | zero => intro v p0 p1 p2; exact sim_none
  | succ k ih => intro v p0 p1 p2; exact sY_tx_read_65 N   _ S  ih v p0 p1 p2
theorem sK_tx_read_65 (N : Nat)  (n : Nat) (S : shp) (v : vl) (p0 : Nat) (p1 : Int32) (p2 : Int32) : SimK B_tx_read 65 [some (.ref p0), some (.int p1), some (.int p2)] [] S v (K_tx_read_65 N  n S v p0 p1 p2) (ρpi S) := sR_tx_read_65 N   S  n  v p0 p1 p2
noncomputable def F_tx_read (N : Nat) (a0 : Nat) (S : shp) (v : vl) : Option (Int32 × vl) :=
  grd (kin S a0 = some (0, 2)) <| (gr S a0 4).bind fun r2 => grd (kin S r2 = some (0, 4)) <| (F_st_clear r2 S v).bind fun w5 => lt (si (si (si (si w5 a0 2 (J 0)) a0 3 (J (-1))) a0 5 (J 0)) a0 6 (J 0)) fun w6 => lt (si (si w6 a0 7 (J 0)) a0 10 (J 0)) fun w7 => (F_tx_advance N a0 S w7).bind fun w8 => (F_tx_isWord N a0 (kad S 10) S w8).bind fun x9 => (if x9 = (J 0) then (F_tx_fail a0 (J 1) S w8).bind fun (x10, w11) => K_tx_read_65 N  N S w11 a0 x10 (J 0) else (F_tx_readClock N a0 S w8).bind fun (x18, w19) => K_tx_read_65 N  N S w19 a0 x18 (J 0))
theorem ok_tx_read (N : Nat) (a0 : Nat) (S : shp) (v : vl) : SimK B_tx_read 0 (entB (bN B_tx_read) [.ref a0]) [] S v (F_tx_read N a0 S v) (ρpi S) := by
  show SimK B_tx_read 0 [some (.ref a0), none, none] [] S v (F_tx_read N a0 S v) _
  unfold F_tx_read
  refine sim_grd fun h1 => ?_
  refine sim_bind fun r2 h3 => ?_
  refine sim_seg [(.aload_n 0, 0, 0, 0), (.getfield 18, 2, 4, 0)] [r2] (q := 4) (L' := [some (.ref a0), none, none]) (st' := [.ref r2]) (v1 := v) (by decide +kernel) rfl ⟨⟨h1, h3⟩, trivial⟩ ?_
  refine sim_grd fun h4 => ?_
  refine sc_pv (pc3 := 7) (cf_V (idx := 29) (ci := 4) [] m_st_clear (by decide) ⟨by decide, by decide⟩ (List.mem_of_getElem? (i := 365) (by decide +kernel)) rfl (Nat.le_of_ble_eq_true rfl) h4 (by decide +kernel) (Nat.le_of_ble_eq_true rfl) rfl) (ok_st_clear r2 S v) rfl (fun w5 => ?_)
  refine sim_seg [(.aload_n 0, 0, 0, 0), (.iconst 0, 0, 0, 0), (.putfield 32, 2, 2, 0), (.aload_n 0, 0, 0, 0), (.iconst (-1), 0, 0, (-1)), (.putfield 22, 2, 3, 0), (.aload_n 0, 0, 0, 0), (.iconst 0, 0, 0, 0), (.putfield 35, 2, 5, 0), (.aload_n 0, 0, 0, 0), (.iconst 0, 0, 0, 0), (.putfield 39, 2, 6, 0)] [] (q := 27) (L' := [some (.ref a0), none, none]) (st' := []) (v1 := (si (si (si (si w5 a0 2 (J 0)) a0 3 (J (-1))) a0 5 (J 0)) a0 6 (J 0))) (by decide +kernel) rfl ⟨h1, h1, ⟨h1, by decide⟩, ⟨h1, by decide⟩, trivial⟩ ?_
  refine sim_lt (x := (si (si (si (si w5 a0 2 (J 0)) a0 3 (J (-1))) a0 5 (J 0)) a0 6 (J 0))) ?_
  generalize (si (si (si (si w5 a0 2 (J 0)) a0 3 (J (-1))) a0 5 (J 0)) a0 6 (J 0)) = w6
  refine sim_seg [(.aload_n 0, 0, 0, 0), (.iconst 0, 0, 0, 0), (.putfield 42, 2, 7, 0), (.aload_n 0, 0, 0, 0), (.iconst 0, 0, 0, 0), (.putfield 45, 2, 10, 0), (.aload_n 0, 0, 0, 0)] [] (q := 38) (L' := [some (.ref a0), none, none]) (st' := [.ref a0]) (v1 := (si (si w6 a0 7 (J 0)) a0 10 (J 0))) (by decide +kernel) rfl ⟨⟨h1, by decide⟩, h1, trivial⟩ ?_
  refine sim_lt (x := (si (si w6 a0 7 (J 0)) a0 10 (J 0))) ?_
  generalize (si (si w6 a0 7 (J 0)) a0 10 (J 0)) = w7
  refine sc_pv (pc3 := 41) (cf_V (idx := 48) (ci := 2) [] m_tx_advance (by decide) ⟨by decide, by decide⟩ (List.mem_of_getElem? (i := 366) (by decide +kernel)) rfl (Nat.le_of_ble_eq_true rfl) h1 (by decide +kernel) (Nat.le_of_ble_eq_true rfl) rfl) (ok_tx_advance N a0 S w7) rfl (fun w8 => ?_)
  refine sim_seg [(.aload_n 0, 0, 0, 0)] [] (q := 42) (L' := [some (.ref a0), none, none]) (st' := [.ref a0]) (v1 := w8) (by decide +kernel) rfl trivial ?_
  refine sim_ldcs (idx := 51) (j := 10) (tx := "clock") (pc3 := 44) (by decide +kernel) (by decide +kernel) rfl ?_
  refine sc_ri (pc3 := 47) (cf_V (idx := 53) (ci := 2) [.ref (kad S 10)] m_tx_isWord (by decide) ⟨by decide, by decide⟩ (List.mem_of_getElem? (i := 385) (by decide +kernel)) rfl (Nat.le_of_ble_eq_true rfl) h1 (by decide +kernel) (Nat.le_of_ble_eq_true rfl) rfl) (ok_tx_isWord N a0 (kad S 10) S w8) rfl (fun x9 => ?_)
  refine sim_eq0 (o := 10) (tg := 57) (f := 50) (by decide +kernel) rfl rfl (fun _ => ?_) (fun _ => ?_)
  · refine sim_seg [(.aload_n 0, 0, 0, 0), (.iconst 1, 0, 0, 1)] [] (q := 59) (L' := [some (.ref a0), none, none]) (st' := [.int (J 1), .ref a0]) (v1 := w8) (by decide +kernel) rfl trivial ?_
    refine sc_pi (pc3 := 62) (cf_V (idx := 61) (ci := 2) [.int (J 1)] m_tx_fail (by decide) ⟨by decide, by decide⟩ (List.mem_of_getElem? (i := 444) (by decide +kernel)) rfl (Nat.le_of_ble_eq_true rfl) h1 (by decide +kernel) (Nat.le_of_ble_eq_true rfl) rfl) (ok_tx_fail a0 (J 1) S w8) rfl (fun x10 w11 => ?_)
    refine sim_seg [(.istore_n 1, 0, 0, 0)] [] (q := 63) (L' := [some (.ref a0), some (.int x10), none]) (st' := []) (v1 := w11) (by decide +kernel) rfl trivial ?_
    refine sim_seg [(.iconst 0, 0, 0, 0), (.istore_n 2, 0, 0, 0)] [] (q := 65) (L' := [some (.ref a0), some (.int x10), some (.int (J 0))]) (st' := []) (v1 := w11) (by decide +kernel) rfl trivial ?_
    exact sK_tx_read_65 N N S w11 a0 x10 (J 0)
  · refine sim_seg [(.aload_n 0, 0, 0, 0)] [] (q := 51) (L' := [some (.ref a0), none, none]) (st' := [.ref a0]) (v1 := w8) (by decide +kernel) rfl trivial ?_
    refine sc_pi (pc3 := 54) (cf_V (idx := 57) (ci := 2) [] m_tx_readClock (by decide) ⟨by decide, by decide⟩ (List.mem_of_getElem? (i := 436) (by decide +kernel)) rfl (Nat.le_of_ble_eq_true rfl) h1 (by decide +kernel) (Nat.le_of_ble_eq_true rfl) rfl) (ok_tx_readClock N a0 S w8) rfl (fun x18 w19 => ?_)
    refine sim_seg [(.goto 8, 0, 0, 0), (.istore_n 1, 0, 0, 0)] [] (q := 63) (L' := [some (.ref a0), some (.int x18), none]) (st' := []) (v1 := w19) (by decide +kernel) rfl trivial ?_
    refine sim_seg [(.iconst 0, 0, 0, 0), (.istore_n 2, 0, 0, 0)] [] (q := 65) (L' := [some (.ref a0), some (.int x18), some (.int (J 0))]) (st' := []) (v1 := w19) (by decide +kernel) rfl trivial ?_
    exact sK_tx_read_65 N N S w19 a0 x18 (J 0)
def B_ck_copyFrom : bd := (⟨"GateCounter$Clock", "copyFrom", "(LGateCounter$Clock;)V"⟩, prog_2_method_3_code, 2, none, [], 0, 0)
theorem m_ck_copyFrom : mV B_ck_copyFrom 0 1 := ⟨⟨⟨by decide +kernel, Or.inl rfl⟩, rfl, (List.mem_of_getElem? (i := 505) (by decide +kernel)), by decide +kernel, (List.mem_of_getElem? (i := 60) (by decide +kernel)), ⟨by decide, by decide⟩, by decide⟩, rfl, (by unfold nar; decide +kernel), (List.mem_of_getElem? (i := 503) (by decide +kernel)), rfl, (List.mem_of_getElem? (i := 504) (by decide +kernel))⟩
noncomputable def F_ck_copyFrom (a0 : Nat) (a1 : Nat) (S : shp) (v : vl) : Option vl :=
  grd (kin S a1 = some (0, 0)) <| grd (kin S a0 = some (0, 0)) <| lt (si v a0 0 (gi v a1 0)) fun w3 => lt (si w3 a0 1 (gi w3 a1 1)) fun w4 => lt (si w4 a0 2 (gi w4 a1 2)) fun w5 => lt (si w5 a0 3 (gi w5 a1 3)) fun w6 => lt (si w6 a0 4 (gi w6 a1 4)) fun w7 => lt (si w7 a0 5 (gi w7 a1 5)) fun w8 => lt (si w8 a0 6 (gi w8 a1 6)) fun w9 => some (w9)
theorem ok_ck_copyFrom (a0 : Nat) (a1 : Nat) (S : shp) (v : vl) : SimK B_ck_copyFrom 0 (entB (bN B_ck_copyFrom) [.ref a0, .ref a1]) [] S v (F_ck_copyFrom a0 a1 S v) (ρpv S) := by
  show SimK B_ck_copyFrom 0 [some (.ref a0), some (.ref a1)] [] S v (F_ck_copyFrom a0 a1 S v) _
  unfold F_ck_copyFrom
  refine sim_grd fun h1 => ?_
  refine sim_grd fun h2 => ?_
  refine sim_seg [(.aload_n 0, 0, 0, 0), (.aload_n 1, 0, 0, 0), (.getfield 11, 0, 0, 0), (.putfield 11, 0, 0, 0), (.aload_n 0, 0, 0, 0), (.aload_n 1, 0, 0, 0)] [] (q := 10) (L' := [some (.ref a0), some (.ref a1)]) (st' := [.ref a1, .ref a0]) (v1 := (si v a0 0 (gi v a1 0))) (by decide +kernel) rfl ⟨h1, h2, trivial⟩ ?_
  refine sim_lt (x := (si v a0 0 (gi v a1 0))) ?_
  generalize (si v a0 0 (gi v a1 0)) = w3
  refine sim_seg [(.getfield 15, 0, 1, 0), (.putfield 15, 0, 1, 0), (.aload_n 0, 0, 0, 0), (.aload_n 1, 0, 0, 0)] [] (q := 18) (L' := [some (.ref a0), some (.ref a1)]) (st' := [.ref a1, .ref a0]) (v1 := (si w3 a0 1 (gi w3 a1 1))) (by decide +kernel) rfl ⟨h1, h2, trivial⟩ ?_
  refine sim_lt (x := (si w3 a0 1 (gi w3 a1 1))) ?_
  generalize (si w3 a0 1 (gi w3 a1 1)) = w4
  refine sim_seg [(.getfield 18, 0, 2, 0), (.putfield 18, 0, 2, 0), (.aload_n 0, 0, 0, 0), (.aload_n 1, 0, 0, 0)] [] (q := 26) (L' := [some (.ref a0), some (.ref a1)]) (st' := [.ref a1, .ref a0]) (v1 := (si w4 a0 2 (gi w4 a1 2))) (by decide +kernel) rfl ⟨h1, h2, trivial⟩ ?_
  refine sim_lt (x := (si w4 a0 2 (gi w4 a1 2))) ?_
  generalize (si w4 a0 2 (gi w4 a1 2)) = w5
  refine sim_seg [(.getfield 21, 0, 3, 0), (.putfield 21, 0, 3, 0), (.aload_n 0, 0, 0, 0), (.aload_n 1, 0, 0, 0)] [] (q := 34) (L' := [some (.ref a0), some (.ref a1)]) (st' := [.ref a1, .ref a0]) (v1 := (si w5 a0 3 (gi w5 a1 3))) (by decide +kernel) rfl ⟨h1, h2, trivial⟩ ?_
  refine sim_lt (x := (si w5 a0 3 (gi w5 a1 3))) ?_
  generalize (si w5 a0 3 (gi w5 a1 3)) = w6
  refine sim_seg [(.getfield 24, 0, 4, 0), (.putfield 24, 0, 4, 0), (.aload_n 0, 0, 0, 0), (.aload_n 1, 0, 0, 0)] [] (q := 42) (L' := [some (.ref a0), some (.ref a1)]) (st' := [.ref a1, .ref a0]) (v1 := (si w6 a0 4 (gi w6 a1 4))) (by decide +kernel) rfl ⟨h1, h2, trivial⟩ ?_
  refine sim_lt (x := (si w6 a0 4 (gi w6 a1 4))) ?_
  generalize (si w6 a0 4 (gi w6 a1 4)) = w7
  refine sim_seg [(.getfield 27, 0, 5, 0), (.putfield 27, 0, 5, 0), (.aload_n 0, 0, 0, 0), (.aload_n 1, 0, 0, 0)] [] (q := 50) (L' := [some (.ref a0), some (.ref a1)]) (st' := [.ref a1, .ref a0]) (v1 := (si w7 a0 5 (gi w7 a1 5))) (by decide +kernel) rfl ⟨h1, h2, trivial⟩ ?_
  refine sim_lt (x := (si w7 a0 5 (gi w7 a1 5))) ?_
  generalize (si w7 a0 5 (gi w7 a1 5)) = w8
  refine sim_seg [(.getfield 30, 0, 6, 0), (.putfield 30, 0, 6, 0)] [] (q := 56) (L' := [some (.ref a0), some (.ref a1)]) (st' := []) (v1 := (si w8 a0 6 (gi w8 a1 6))) (by decide +kernel) rfl ⟨h1, h2, trivial⟩ ?_
  refine sim_lt (x := (si w8 a0 6 (gi w8 a1 6))) ?_
  generalize (si w8 a0 6 (gi w8 a1 6)) = w9
  exact sim_vret (by decide +kernel) rfl rfl
def B_sg_copyFrom : bd := (⟨"GateCounter$Signal", "copyFrom", "(LGateCounter$Signal;)V"⟩, prog_5_method_3_code, 2, none, [], 3, 2)
theorem m_sg_copyFrom : mV B_sg_copyFrom 3 1 := ⟨⟨⟨by decide +kernel, Or.inl rfl⟩, rfl, (List.mem_of_getElem? (i := 509) (by decide +kernel)), by decide +kernel, (List.mem_of_getElem? (i := 61) (by decide +kernel)), ⟨by decide, by decide⟩, by decide⟩, rfl, (by unfold nar; decide +kernel), (List.mem_of_getElem? (i := 507) (by decide +kernel)), rfl, (List.mem_of_getElem? (i := 508) (by decide +kernel))⟩
noncomputable def F_sg_copyFrom (a0 : Nat) (a1 : Nat) (S : shp) (v : vl) : Option vl :=
  grd (kin S a1 = some (0, 3)) <| grd (kin S a0 = some (0, 3)) <| lt (si v a0 0 (gi v a1 0)) fun w3 => lt (si w3 a0 1 (gi w3 a1 1)) fun w4 => lt (si w4 a0 2 (gi w4 a1 2)) fun w5 => lt (si w5 a0 3 (gi w5 a1 3)) fun w6 => lt (si w6 a0 4 (gi w6 a1 4)) fun w7 => lt (si w7 a0 5 (gi w7 a1 5)) fun w8 => lt (si w8 a0 6 (gi w8 a1 6)) fun w9 => lt (si w9 a0 7 (gi w9 a1 7)) fun w10 => lt (si w10 a0 8 (gi w10 a1 8)) fun w11 => lt (si w11 a0 9 (gi w11 a1 9)) fun w12 => (gr S a1 10).bind fun r13 => (gr S a0 10).bind fun r15 => grd (kin S r13 = some (1, 8)) <| grd (kin S r15 = some (1, 8)) <| grd ((¬ (J 0) < 0 ∧ ¬ (J 0) < 0 ∧ ¬ (J 8) < 0) ∧ (Int32.toNatClampNeg (J 0)) + (Int32.toNatClampNeg (J 8)) ≤ alen S r13 ∧ (Int32.toNatClampNeg (J 0)) + (Int32.toNatClampNeg (J 8)) ≤ alen S r15 ∧ ∀ i, i < (Int32.toNatClampNeg (J 8)) → fits (aty 0) (.int (gi w12 r13 ((Int32.toNatClampNeg (J 0)) + i))) = true) <| lt (cpy w12 r13 (Int32.toNatClampNeg (J 0)) r15 (Int32.toNatClampNeg (J 0)) (Int32.toNatClampNeg (J 8))) fun w20 => (gr S a1 11).bind fun r21 => (gr S a0 11).bind fun r23 => grd (kin S r21 = some (1, 8)) <| grd (kin S r23 = some (1, 8)) <| grd ((¬ (J 0) < 0 ∧ ¬ (J 0) < 0 ∧ ¬ (J 8) < 0) ∧ (Int32.toNatClampNeg (J 0)) + (Int32.toNatClampNeg (J 8)) ≤ alen S r21 ∧ (Int32.toNatClampNeg (J 0)) + (Int32.toNatClampNeg (J 8)) ≤ alen S r23 ∧ ∀ i, i < (Int32.toNatClampNeg (J 8)) → fits (aty 0) (.int (gi w20 r21 ((Int32.toNatClampNeg (J 0)) + i))) = true) <| lt (cpy w20 r21 (Int32.toNatClampNeg (J 0)) r23 (Int32.toNatClampNeg (J 0)) (Int32.toNatClampNeg (J 8))) fun w28 => some (w28)
theorem ok_sg_copyFrom (a0 : Nat) (a1 : Nat) (S : shp) (v : vl) : SimK B_sg_copyFrom 0 (entB (bN B_sg_copyFrom) [.ref a0, .ref a1]) [] S v (F_sg_copyFrom a0 a1 S v) (ρpv S) := by
  show SimK B_sg_copyFrom 0 [some (.ref a0), some (.ref a1)] [] S v (F_sg_copyFrom a0 a1 S v) _
  unfold F_sg_copyFrom
  refine sim_grd fun h1 => ?_
  refine sim_grd fun h2 => ?_
  refine sim_seg [(.aload_n 0, 0, 0, 0), (.aload_n 1, 0, 0, 0), (.getfield 18, 3, 0, 0), (.putfield 18, 3, 0, 0), (.aload_n 0, 0, 0, 0), (.aload_n 1, 0, 0, 0)] [] (q := 10) (L' := [some (.ref a0), some (.ref a1)]) (st' := [.ref a1, .ref a0]) (v1 := (si v a0 0 (gi v a1 0))) (by decide +kernel) rfl ⟨h1, h2, trivial⟩ ?_
  refine sim_lt (x := (si v a0 0 (gi v a1 0))) ?_
  generalize (si v a0 0 (gi v a1 0)) = w3
  refine sim_seg [(.getfield 22, 3, 1, 0), (.putfield 22, 3, 1, 0), (.aload_n 0, 0, 0, 0), (.aload_n 1, 0, 0, 0)] [] (q := 18) (L' := [some (.ref a0), some (.ref a1)]) (st' := [.ref a1, .ref a0]) (v1 := (si w3 a0 1 (gi w3 a1 1))) (by decide +kernel) rfl ⟨h1, h2, trivial⟩ ?_
  refine sim_lt (x := (si w3 a0 1 (gi w3 a1 1))) ?_
  generalize (si w3 a0 1 (gi w3 a1 1)) = w4
  refine sim_seg [(.getfield 25, 3, 2, 0), (.putfield 25, 3, 2, 0), (.aload_n 0, 0, 0, 0), (.aload_n 1, 0, 0, 0)] [] (q := 26) (L' := [some (.ref a0), some (.ref a1)]) (st' := [.ref a1, .ref a0]) (v1 := (si w4 a0 2 (gi w4 a1 2))) (by decide +kernel) rfl ⟨h1, h2, trivial⟩ ?_
  refine sim_lt (x := (si w4 a0 2 (gi w4 a1 2))) ?_
  generalize (si w4 a0 2 (gi w4 a1 2)) = w5
  refine sim_seg [(.getfield 28, 3, 3, 0), (.putfield 28, 3, 3, 0), (.aload_n 0, 0, 0, 0), (.aload_n 1, 0, 0, 0)] [] (q := 34) (L' := [some (.ref a0), some (.ref a1)]) (st' := [.ref a1, .ref a0]) (v1 := (si w5 a0 3 (gi w5 a1 3))) (by decide +kernel) rfl ⟨h1, h2, trivial⟩ ?_
  refine sim_lt (x := (si w5 a0 3 (gi w5 a1 3))) ?_
  generalize (si w5 a0 3 (gi w5 a1 3)) = w6
  refine sim_seg [(.getfield 41, 3, 4, 0), (.putfield 41, 3, 4, 0), (.aload_n 0, 0, 0, 0), (.aload_n 1, 0, 0, 0)] [] (q := 42) (L' := [some (.ref a0), some (.ref a1)]) (st' := [.ref a1, .ref a0]) (v1 := (si w6 a0 4 (gi w6 a1 4))) (by decide +kernel) rfl ⟨h1, h2, trivial⟩ ?_
  refine sim_lt (x := (si w6 a0 4 (gi w6 a1 4))) ?_
  generalize (si w6 a0 4 (gi w6 a1 4)) = w7
  refine sim_seg [(.getfield 44, 3, 5, 0), (.putfield 44, 3, 5, 0), (.aload_n 0, 0, 0, 0), (.aload_n 1, 0, 0, 0)] [] (q := 50) (L' := [some (.ref a0), some (.ref a1)]) (st' := [.ref a1, .ref a0]) (v1 := (si w7 a0 5 (gi w7 a1 5))) (by decide +kernel) rfl ⟨h1, h2, trivial⟩ ?_
  refine sim_lt (x := (si w7 a0 5 (gi w7 a1 5))) ?_
  generalize (si w7 a0 5 (gi w7 a1 5)) = w8
  refine sim_seg [(.getfield 47, 3, 6, 0), (.putfield 47, 3, 6, 0), (.aload_n 0, 0, 0, 0), (.aload_n 1, 0, 0, 0)] [] (q := 58) (L' := [some (.ref a0), some (.ref a1)]) (st' := [.ref a1, .ref a0]) (v1 := (si w8 a0 6 (gi w8 a1 6))) (by decide +kernel) rfl ⟨h1, h2, trivial⟩ ?_
  refine sim_lt (x := (si w8 a0 6 (gi w8 a1 6))) ?_
  generalize (si w8 a0 6 (gi w8 a1 6)) = w9
  refine sim_seg [(.getfield 50, 3, 7, 0), (.putfield 50, 3, 7, 0), (.aload_n 0, 0, 0, 0), (.aload_n 1, 0, 0, 0)] [] (q := 66) (L' := [some (.ref a0), some (.ref a1)]) (st' := [.ref a1, .ref a0]) (v1 := (si w9 a0 7 (gi w9 a1 7))) (by decide +kernel) rfl ⟨h1, h2, trivial⟩ ?_
  refine sim_lt (x := (si w9 a0 7 (gi w9 a1 7))) ?_
  generalize (si w9 a0 7 (gi w9 a1 7)) = w10
  refine sim_seg [(.getfield 35, 3, 8, 0), (.putfield 35, 3, 8, 0), (.aload_n 0, 0, 0, 0), (.aload_n 1, 0, 0, 0)] [] (q := 74) (L' := [some (.ref a0), some (.ref a1)]) (st' := [.ref a1, .ref a0]) (v1 := (si w10 a0 8 (gi w10 a1 8))) (by decide +kernel) rfl ⟨h1, h2, trivial⟩ ?_
  refine sim_lt (x := (si w10 a0 8 (gi w10 a1 8))) ?_
  generalize (si w10 a0 8 (gi w10 a1 8)) = w11
  refine sim_seg [(.getfield 38, 3, 9, 0), (.putfield 38, 3, 9, 0), (.aload_n 1, 0, 0, 0)] [] (q := 81) (L' := [some (.ref a0), some (.ref a1)]) (st' := [.ref a1]) (v1 := (si w11 a0 9 (gi w11 a1 9))) (by decide +kernel) rfl ⟨h1, h2, trivial⟩ ?_
  refine sim_lt (x := (si w11 a0 9 (gi w11 a1 9))) ?_
  generalize (si w11 a0 9 (gi w11 a1 9)) = w12
  refine sim_bind fun r13 h14 => ?_
  refine sim_bind fun r15 h16 => ?_
  refine sim_seg [(.getfield 9, 3, 10, 0), (.iconst 0, 0, 0, 0), (.aload_n 0, 0, 0, 0), (.getfield 9, 3, 10, 0), (.iconst 0, 0, 0, 0), (.bipush 8, 0, 0, 8)] [r13, r15] (q := 92) (L' := [some (.ref a0), some (.ref a1)]) (st' := [.int (J 8), .int (J 0), .ref r15, .int (J 0), .ref r13]) (v1 := w12) (by decide +kernel) rfl ⟨⟨h1, h14⟩, ⟨h2, h16⟩, trivial⟩ ?_
  refine sim_grd fun h17 => ?_
  refine sim_grd fun h18 => ?_
  refine sim_grd fun h19 => ?_
  refine sim_copy (idx := 53) (ty := 0) (pc3 := 95) (by decide) (by decide +kernel) (List.mem_of_getElem? (i := 510) (by decide +kernel)) (Or.inl (kin_alen h17)) (kin_alen h18) h19 (by decide) (Nat.le_of_ble_eq_true rfl) rfl (fun w20 => ?_)
  refine sim_bind fun r21 h22 => ?_
  refine sim_bind fun r23 h24 => ?_
  refine sim_seg [(.aload_n 1, 0, 0, 0), (.getfield 15, 3, 11, 0), (.iconst 0, 0, 0, 0), (.aload_n 0, 0, 0, 0), (.getfield 15, 3, 11, 0), (.iconst 0, 0, 0, 0), (.bipush 8, 0, 0, 8)] [r21, r23] (q := 107) (L' := [some (.ref a0), some (.ref a1)]) (st' := [.int (J 8), .int (J 0), .ref r23, .int (J 0), .ref r21]) (v1 := w20) (by decide +kernel) rfl ⟨⟨h1, h22⟩, ⟨h2, h24⟩, trivial⟩ ?_
  refine sim_grd fun h25 => ?_
  refine sim_grd fun h26 => ?_
  refine sim_grd fun h27 => ?_
  refine sim_copy (idx := 53) (ty := 0) (pc3 := 110) (by decide) (by decide +kernel) (List.mem_of_getElem? (i := 510) (by decide +kernel)) (Or.inl (kin_alen h25)) (kin_alen h26) h27 (by decide) (Nat.le_of_ble_eq_true rfl) rfl (fun w28 => ?_)
  exact sim_vret (by decide +kernel) rfl rfl
def B_st_copyFrom : bd := (⟨"GateCounter$State", "copyFrom", "(LGateCounter$State;)V"⟩, prog_6_method_3_code, 3, none, [], 4, 3)
theorem m_st_copyFrom : mV B_st_copyFrom 4 1 := ⟨⟨⟨by decide +kernel, Or.inl rfl⟩, rfl, (List.mem_of_getElem? (i := 501) (by decide +kernel)), by decide +kernel, (List.mem_of_getElem? (i := 59) (by decide +kernel)), ⟨by decide, by decide⟩, by decide⟩, rfl, (by unfold nar; decide +kernel), (List.mem_of_getElem? (i := 499) (by decide +kernel)), rfl, (List.mem_of_getElem? (i := 500) (by decide +kernel))⟩
noncomputable def Y_st_copyFrom_72 (N : Nat)  (i72 : shp → vl → Nat → Nat → Int32 → Option (shp × vl))  (S : shp) (v : vl) (p0 : Nat) (p1 : Nat) (p2 : Int32) : Option (shp × vl) :=
  grd (kin S p0 = some (0, 4)) <| (if p2 < (gi v p0 5) then (gr S p0 8).bind fun r22 => grd (kin S p1 = some (0, 4)) <| (gr S p1 8).bind fun r25 => grd (kin S r25 = some (5, 20)) <| grd (vp_in p2 (alen S r25)) <| (gr S r25 (Int32.toNatClampNeg p2)).bind fun r29 => grd (kin S r22 = some (5, 20)) <| grd (vp_in p2 (alen S r22)) <| grd (kin S r29 = some (0, 1)) <| lt (sr S r22 (Int32.toNatClampNeg p2) (some r29)) fun S34 => i72 S34 v p0 p1 (p2 + (J 1)) else some ((S, v)))
noncomputable def K_st_copyFrom_72 (N : Nat)  (n : Nat)  : shp → vl → Nat → Nat → Int32 → Option (shp × vl) :=
  Nat.rec (motive := fun _ => shp → vl → Nat → Nat → Int32 → Option (shp × vl)) (fun _ _ _ _ _ => none) (fun _ i => Y_st_copyFrom_72 N  i ) n
theorem sY_st_copyFrom_72 (N : Nat)  (i72 : shp → vl → Nat → Nat → Int32 → Option (shp × vl))   (j72 : ∀ (S : shp) (v : vl) (p0 : Nat) (p1 : Nat) (p2 : Int32), SimK B_st_copyFrom 72 [some (.ref p0), some (.ref p1), some (.int p2)] [] S v (i72 S v p0 p1 p2) (ρgv)) (S : shp) (v : vl) (p0 : Nat) (p1 : Nat) (p2 : Int32) : SimK B_st_copyFrom 72 [some (.ref p0), some (.ref p1), some (.int p2)] [] S v (Y_st_copyFrom_72 N  i72  S v p0 p1 p2) (ρgv) := by
  unfold Y_st_copyFrom_72
  refine sim_grd fun h21 => ?_
  refine sim_seg [(.iload_n 2, 0, 0, 0), (.aload_n 0, 0, 0, 0), (.getfield 50, 4, 5, 0)] [] (q := 77) (L' := [some (.ref p0), some (.ref p1), some (.int p2)]) (st' := [.int (gi v p0 5), .int p2]) (v1 := v) (by decide +kernel) rfl ⟨h21, trivial⟩ ?_
  refine sim_ge (o := 21) (tg := 98) (f := 80) (by decide +kernel) rfl rfl (fun _ => ?_) (fun _ => ?_)
  · refine sim_bind fun r22 h23 => ?_
    refine sim_grd fun h24 => ?_
    refine sim_bind fun r25 h26 => ?_
    refine sim_grd fun h27 => ?_
    refine sim_grd fun h28 => ?_
    refine sim_bind fun r29 h30 => ?_
    refine sim_seg [(.aload_n 0, 0, 0, 0), (.getfield 27, 4, 8, 0), (.iload_n 2, 0, 0, 0), (.aload_n 1, 0, 0, 0), (.getfield 27, 4, 8, 0), (.iload_n 2, 0, 0, 0), (.aaload, 0, 0, 0)] [r22, r25, r29] (q := 91) (L' := [some (.ref p0), some (.ref p1), some (.int p2)]) (st' := [.ref r29, .int p2, .ref r22]) (v1 := v) (by decide +kernel) rfl ⟨⟨h21, h23⟩, ⟨h24, h26⟩, ⟨Or.inr (kin_alen h27), h28, h30⟩, trivial⟩ ?_
    refine sim_grd fun h31 => ?_
    refine sim_grd fun h32 => ?_
    refine sim_grd fun h33 => ?_
    refine sim_aast (ty := 4) (ci := 1) (pc3 := 92) (Or.inr ⟨rfl, rfl⟩) (by decide +kernel) (kin_alen h31) h32 h33 rfl (fun S34 h35 => ?_)
    refine sim_seg [(.iinc 2 1, 0, 0, 1)] [] (q := 95) (L' := [some (.ref p0), some (.ref p1), some (.int (p2 + (J 1)))]) (st' := []) (v1 := v) (by decide +kernel) rfl trivial ?_
    refine sim_seg [(.goto (-23), 0, 0, 0)] [] (q := 72) (L' := [some (.ref p0), some (.ref p1), some (.int (p2 + (J 1)))]) (st' := []) (v1 := v) (by decide +kernel) rfl trivial ?_
    exact j72 S34 v p0 p1 (p2 + (J 1))
  · exact sim_vret (by decide +kernel) rfl rfl
theorem sR_st_copyFrom_72 (N : Nat)    (n : Nat) : ∀ (S : shp) (v : vl) (p0 : Nat) (p1 : Nat) (p2 : Int32), SimK B_st_copyFrom 72 [some (.ref p0), some (.ref p1), some (.int p2)] [] S v (K_st_copyFrom_72 N  n  S v p0 p1 p2) (ρgv) := by
  induction n with
  | zero => intro S v p0 p1 p2; exact sim_none
  | succ k ih => intro S v p0 p1 p2; exact sY_st_copyFrom_72 N   _   ih S v p0 p1 p2
theorem sK_st_copyFrom_72 (N : Nat)   (n : Nat) (S : shp) (v : vl) (p0 : Nat) (p1 : Nat) (p2 : Int32) : SimK B_st_copyFrom 72 [some (.ref p0), some (.ref p1), some (.int p2)] [] S v (K_st_copyFrom_72 N  n  S v p0 p1 p2) (ρgv) := sR_st_copyFrom_72 N    n  S v p0 p1 p2
noncomputable def F_st_copyFrom (N : Nat) (a0 : Nat) (a1 : Nat) (S : shp) (v : vl) : Option (shp × vl) :=
  grd (kin S a1 = some (0, 4)) <| grd (kin S a0 = some (0, 4)) <| lt (si v a0 0 (gi v a1 0)) fun w3 => lt (si w3 a0 1 (gi w3 a1 1)) fun w4 => lt (si w4 a0 2 (gi w4 a1 2)) fun w5 => lt (si w5 a0 3 (gi w5 a1 3)) fun w6 => lt (si w6 a0 4 (gi w6 a1 4)) fun w7 => lt (si w7 a0 5 (gi w7 a1 5)) fun w8 => (gr S a0 6).bind fun r9 => (gr S a1 6).bind fun r11 => grd (kin S r9 = some (0, 0)) <| (F_ck_copyFrom r9 r11 S w8).bind fun w14 => (gr S a0 7).bind fun r15 => (gr S a1 7).bind fun r17 => grd (kin S r15 = some (0, 3)) <| (F_sg_copyFrom r15 r17 S w14).bind fun w20 => K_st_copyFrom_72 N  N S w20 a0 a1 (J 0)
theorem ok_st_copyFrom (N : Nat) (a0 : Nat) (a1 : Nat) (S : shp) (v : vl) : SimK B_st_copyFrom 0 (entB (bN B_st_copyFrom) [.ref a0, .ref a1]) [] S v (F_st_copyFrom N a0 a1 S v) (ρgv) := by
  show SimK B_st_copyFrom 0 [some (.ref a0), some (.ref a1), none] [] S v (F_st_copyFrom N a0 a1 S v) _
  unfold F_st_copyFrom
  refine sim_grd fun h1 => ?_
  refine sim_grd fun h2 => ?_
  refine sim_seg [(.aload_n 0, 0, 0, 0), (.aload_n 1, 0, 0, 0), (.getfield 34, 4, 0, 0), (.putfield 34, 4, 0, 0), (.aload_n 0, 0, 0, 0), (.aload_n 1, 0, 0, 0)] [] (q := 10) (L' := [some (.ref a0), some (.ref a1), none]) (st' := [.ref a1, .ref a0]) (v1 := (si v a0 0 (gi v a1 0))) (by decide +kernel) rfl ⟨h1, h2, trivial⟩ ?_
  refine sim_lt (x := (si v a0 0 (gi v a1 0))) ?_
  generalize (si v a0 0 (gi v a1 0)) = w3
  refine sim_seg [(.getfield 38, 4, 1, 0), (.putfield 38, 4, 1, 0), (.aload_n 0, 0, 0, 0), (.aload_n 1, 0, 0, 0)] [] (q := 18) (L' := [some (.ref a0), some (.ref a1), none]) (st' := [.ref a1, .ref a0]) (v1 := (si w3 a0 1 (gi w3 a1 1))) (by decide +kernel) rfl ⟨h1, h2, trivial⟩ ?_
  refine sim_lt (x := (si w3 a0 1 (gi w3 a1 1))) ?_
  generalize (si w3 a0 1 (gi w3 a1 1)) = w4
  refine sim_seg [(.getfield 41, 4, 2, 0), (.putfield 41, 4, 2, 0), (.aload_n 0, 0, 0, 0), (.aload_n 1, 0, 0, 0)] [] (q := 26) (L' := [some (.ref a0), some (.ref a1), none]) (st' := [.ref a1, .ref a0]) (v1 := (si w4 a0 2 (gi w4 a1 2))) (by decide +kernel) rfl ⟨h1, h2, trivial⟩ ?_
  refine sim_lt (x := (si w4 a0 2 (gi w4 a1 2))) ?_
  generalize (si w4 a0 2 (gi w4 a1 2)) = w5
  refine sim_seg [(.getfield 44, 4, 3, 0), (.putfield 44, 4, 3, 0), (.aload_n 0, 0, 0, 0), (.aload_n 1, 0, 0, 0)] [] (q := 34) (L' := [some (.ref a0), some (.ref a1), none]) (st' := [.ref a1, .ref a0]) (v1 := (si w5 a0 3 (gi w5 a1 3))) (by decide +kernel) rfl ⟨h1, h2, trivial⟩ ?_
  refine sim_lt (x := (si w5 a0 3 (gi w5 a1 3))) ?_
  generalize (si w5 a0 3 (gi w5 a1 3)) = w6
  refine sim_seg [(.getfield 47, 4, 4, 0), (.putfield 47, 4, 4, 0), (.aload_n 0, 0, 0, 0), (.aload_n 1, 0, 0, 0)] [] (q := 42) (L' := [some (.ref a0), some (.ref a1), none]) (st' := [.ref a1, .ref a0]) (v1 := (si w6 a0 4 (gi w6 a1 4))) (by decide +kernel) rfl ⟨h1, h2, trivial⟩ ?_
  refine sim_lt (x := (si w6 a0 4 (gi w6 a1 4))) ?_
  generalize (si w6 a0 4 (gi w6 a1 4)) = w7
  refine sim_seg [(.getfield 50, 4, 5, 0), (.putfield 50, 4, 5, 0), (.aload_n 0, 0, 0, 0)] [] (q := 49) (L' := [some (.ref a0), some (.ref a1), none]) (st' := [.ref a0]) (v1 := (si w7 a0 5 (gi w7 a1 5))) (by decide +kernel) rfl ⟨h1, h2, trivial⟩ ?_
  refine sim_lt (x := (si w7 a0 5 (gi w7 a1 5))) ?_
  generalize (si w7 a0 5 (gi w7 a1 5)) = w8
  refine sim_bind fun r9 h10 => ?_
  refine sim_bind fun r11 h12 => ?_
  refine sim_seg [(.getfield 12, 4, 6, 0), (.aload_n 1, 0, 0, 0), (.getfield 12, 4, 6, 0)] [r9, r11] (q := 56) (L' := [some (.ref a0), some (.ref a1), none]) (st' := [.ref r11, .ref r9]) (v1 := w8) (by decide +kernel) rfl ⟨⟨h2, h10⟩, ⟨h1, h12⟩, trivial⟩ ?_
  refine sim_grd fun h13 => ?_
  refine sc_pv (pc3 := 59) (cf_V (idx := 58) (ci := 0) [.ref r11] m_ck_copyFrom (by decide) ⟨by decide, by decide⟩ (List.mem_of_getElem? (i := 502) (by decide +kernel)) rfl (Nat.le_of_ble_eq_true rfl) h13 (by decide +kernel) (Nat.le_of_ble_eq_true rfl) rfl) (ok_ck_copyFrom r9 r11 S w8) rfl (fun w14 => ?_)
  refine sim_bind fun r15 h16 => ?_
  refine sim_bind fun r17 h18 => ?_
  refine sim_seg [(.aload_n 0, 0, 0, 0), (.getfield 21, 4, 7, 0), (.aload_n 1, 0, 0, 0), (.getfield 21, 4, 7, 0)] [r15, r17] (q := 67) (L' := [some (.ref a0), some (.ref a1), none]) (st' := [.ref r17, .ref r15]) (v1 := w14) (by decide +kernel) rfl ⟨⟨h2, h16⟩, ⟨h1, h18⟩, trivial⟩ ?_
  refine sim_grd fun h19 => ?_
  refine sc_pv (pc3 := 70) (cf_V (idx := 62) (ci := 3) [.ref r17] m_sg_copyFrom (by decide) ⟨by decide, by decide⟩ (List.mem_of_getElem? (i := 506) (by decide +kernel)) rfl (Nat.le_of_ble_eq_true rfl) h19 (by decide +kernel) (Nat.le_of_ble_eq_true rfl) rfl) (ok_sg_copyFrom r15 r17 S w14) rfl (fun w20 => ?_)
  refine sim_seg [(.iconst 0, 0, 0, 0), (.istore_n 2, 0, 0, 0)] [] (q := 72) (L' := [some (.ref a0), some (.ref a1), some (.int (J 0))]) (st' := []) (v1 := w20) (by decide +kernel) rfl trivial ?_
  exact sK_st_copyFrom_72 N N S w20 a0 a1 (J 0)
def B_gc_loadCounter : bd := (⟨"GateCounter", "loadCounter", "()I"⟩, prog_1_method_4_code, 2, (some .int), [], 5, 7)
theorem m_gc_loadCounter : mV B_gc_loadCounter 5 0 := ⟨⟨⟨by decide +kernel, Or.inl rfl⟩, rfl, (List.mem_of_getElem? (i := 360) (by decide +kernel)), by decide +kernel, (List.mem_of_getElem? (i := 57) (by decide +kernel)), ⟨by decide, by decide⟩, by decide⟩, rfl, (by unfold nar; decide +kernel), (List.mem_of_getElem? (i := 358) (by decide +kernel)), rfl, (List.mem_of_getElem? (i := 359) (by decide +kernel))⟩
noncomputable def F_gc_loadCounter (N : Nat) (a0 : Nat) (S : shp) (v : vl) : Option (Int32 × shp × vl) :=
  grd (kin S a0 = some (0, 5)) <| (gr S a0 0).bind fun r2 => grd (kin S r2 = some (0, 2)) <| (F_tx_read N r2 S v).bind fun (x5, w6) => lt (si w6 r2 1 (J 0)) fun w7 => (if x5 = (J 0) then some (((J (-1)), S, w7)) else (gr S a0 5).bind fun r8 => (gr S r2 4).bind fun r10 => grd (kin S r8 = some (0, 4)) <| (F_st_copyFrom N r8 r10 S w7).bind fun (S13, w14) => lt (si (si w14 a0 12 (J 0)) a0 9 (J 0)) fun w16 => (gr S13 a0 5).bind fun r17 => grd (kin S13 r17 = some (0, 4)) <| (gr S13 r17 7).bind fun r20 => grd (kin S13 r20 = some (0, 3)) <| some (((gi w16 r20 8), S13, w16)))
theorem ok_gc_loadCounter (N : Nat) (a0 : Nat) (S : shp) (v : vl) : SimK B_gc_loadCounter 0 (entB (bN B_gc_loadCounter) [.ref a0]) [] S v (F_gc_loadCounter N a0 S v) (ρgi) := by
  show SimK B_gc_loadCounter 0 [some (.ref a0), none] [] S v (F_gc_loadCounter N a0 S v) _
  unfold F_gc_loadCounter
  refine sim_grd fun h1 => ?_
  refine sim_bind fun r2 h3 => ?_
  refine sim_seg [(.aload_n 0, 0, 0, 0), (.getfield 10, 5, 0, 0)] [r2] (q := 4) (L' := [some (.ref a0), none]) (st' := [.ref r2]) (v1 := v) (by decide +kernel) rfl ⟨⟨h1, h3⟩, trivial⟩ ?_
  refine sim_grd fun h4 => ?_
  refine sc_pi (pc3 := 7) (cf_V (idx := 51) (ci := 2) [] m_tx_read (by decide) ⟨by decide, by decide⟩ (List.mem_of_getElem? (i := 361) (by decide +kernel)) rfl (Nat.le_of_ble_eq_true rfl) h4 (by decide +kernel) (Nat.le_of_ble_eq_true rfl) rfl) (ok_tx_read N r2 S v) rfl (fun x5 w6 => ?_)
  refine sim_seg [(.istore_n 1, 0, 0, 0)] [] (q := 8) (L' := [some (.ref a0), some (.int x5)]) (st' := []) (v1 := w6) (by decide +kernel) rfl trivial ?_
  refine sim_seg [(.aload_n 0, 0, 0, 0), (.getfield 10, 5, 0, 0), (.iconst 0, 0, 0, 0), (.putfield 43, 2, 1, 0), (.iload_n 1, 0, 0, 0)] [r2] (q := 17) (L' := [some (.ref a0), some (.int x5)]) (st' := [.int x5]) (v1 := (si w6 r2 1 (J 0))) (by decide +kernel) rfl ⟨⟨h1, h3⟩, h4, trivial⟩ ?_
  refine sim_lt (x := (si w6 r2 1 (J 0))) ?_
  generalize (si w6 r2 1 (J 0)) = w7
  refine sim_ne0 (o := 5) (tg := 22) (f := 20) (by decide +kernel) rfl rfl (fun _ => ?_) (fun _ => ?_)
  · refine sim_seg [(.iconst (-1), 0, 0, (-1))] [] (q := 21) (L' := [some (.ref a0), some (.int x5)]) (st' := [.int (J (-1))]) (v1 := w7) (by decide +kernel) rfl trivial ?_
    exact sim_iret (by decide +kernel) rfl rfl rfl
  · refine sim_bind fun r8 h9 => ?_
    refine sim_bind fun r10 h11 => ?_
    refine sim_seg [(.aload_n 0, 0, 0, 0), (.getfield 26, 5, 5, 0), (.aload_n 0, 0, 0, 0), (.getfield 10, 5, 0, 0), (.getfield 55, 2, 4, 0)] [r8, r2, r10] (q := 33) (L' := [some (.ref a0), some (.int x5)]) (st' := [.ref r10, .ref r8]) (v1 := w7) (by decide +kernel) rfl ⟨⟨h1, h9⟩, ⟨h1, h3⟩, ⟨h4, h11⟩, trivial⟩ ?_
    refine sim_grd fun h12 => ?_
    refine sc_gv (pc3 := 36) (cf_V (idx := 58) (ci := 4) [.ref r10] m_st_copyFrom (by decide) ⟨by decide, by decide⟩ (List.mem_of_getElem? (i := 498) (by decide +kernel)) rfl (Nat.le_of_ble_eq_true rfl) h12 (by decide +kernel) (Nat.le_of_ble_eq_true rfl) rfl) (ok_st_copyFrom N r8 r10 S w7) rfl (fun S13 w14 h15 => ?_)
    refine sim_seg [(.aload_n 0, 0, 0, 0), (.iconst 0, 0, 0, 0), (.putfield 62, 5, 12, 0), (.aload_n 0, 0, 0, 0), (.iconst 0, 0, 0, 0), (.putfield 65, 5, 9, 0), (.aload_n 0, 0, 0, 0)] [] (q := 47) (L' := [some (.ref a0), some (.int x5)]) (st' := [.ref a0]) (v1 := (si (si w14 a0 12 (J 0)) a0 9 (J 0))) (by decide +kernel) rfl ⟨(h15.2.2.2.2 _ _ h1), ⟨(h15.2.2.2.2 _ _ h1), by decide⟩, trivial⟩ ?_
    refine sim_lt (x := (si (si w14 a0 12 (J 0)) a0 9 (J 0))) ?_
    generalize (si (si w14 a0 12 (J 0)) a0 9 (J 0)) = w16
    refine sim_bind fun r17 h18 => ?_
    refine sim_grd fun h19 => ?_
    refine sim_bind fun r20 h21 => ?_
    refine sim_grd fun h22 => ?_
    refine sim_seg [(.getfield 26, 5, 5, 0), (.getfield 69, 4, 7, 0), (.getfield 73, 3, 8, 0)] [r17, r20] (q := 56) (L' := [some (.ref a0), some (.int x5)]) (st' := [.int (gi w16 r20 8)]) (v1 := w16) (by decide +kernel) rfl ⟨⟨(h15.2.2.2.2 _ _ h1), h18⟩, ⟨h19, h21⟩, h22, trivial⟩ ?_
    exact sim_iret (by decide +kernel) rfl rfl rfl
def B_tx_append : bd := (⟨"GateCounter$SetupText", "append", "(I)V"⟩, prog_4_method_2_code, 3, none, [], 2, 0)
theorem m_tx_append : mV B_tx_append 2 1 := ⟨⟨⟨by decide +kernel, Or.inl rfl⟩, rfl, (List.mem_of_getElem? (i := 528) (by decide +kernel)), by decide +kernel, (List.mem_of_getElem? (i := 58) (by decide +kernel)), ⟨by decide, by decide⟩, by decide⟩, rfl, (by unfold nar; decide +kernel), (List.mem_of_getElem? (i := 526) (by decide +kernel)), rfl, (List.mem_of_getElem? (i := 527) (by decide +kernel))⟩
noncomputable def Y_tx_append_3 (N : Nat)  (i3 : vl → Nat → Int32 → Int32 → Option vl) (S : shp) (v : vl) (p0 : Nat) (p1 : Int32) (p2 : Int32) : Option vl :=
  (if p2 < (J 0) then some (v) else grd (kin S p0 = some (0, 2)) <| (gr S p0 0).bind fun r2 => grd (kin S r2 = some (2, 500)) <| (if (gi v p0 1) < (nI (alen S r2)) then grd (vp_in (gi v p0 1) (alen S r2)) <| lt (si v r2 (Int32.toNatClampNeg (gi v p0 1)) (Int8.toInt32 (Int32.toInt8 (Int8.toInt32 (Int32.toInt8 (p1 >>> (p2 &&& 31))))))) fun w6 => lt (si w6 p0 1 ((gi w6 p0 1) + (J 1))) fun w7 => i3 w7 p0 p1 (p2 + (J (-8))) else some (v)))
noncomputable def K_tx_append_3 (N : Nat)  (n : Nat) (S : shp) : vl → Nat → Int32 → Int32 → Option vl :=
  Nat.rec (motive := fun _ => vl → Nat → Int32 → Int32 → Option vl) (fun _ _ _ _ => none) (fun _ i => Y_tx_append_3 N  i S) n
theorem sY_tx_append_3 (N : Nat)  (i3 : vl → Nat → Int32 → Int32 → Option vl) (S : shp)  (j3 : ∀ (v : vl) (p0 : Nat) (p1 : Int32) (p2 : Int32), SimK B_tx_append 3 [some (.ref p0), some (.int p1), some (.int p2)] [] S v (i3 v p0 p1 p2) (ρpv S)) (v : vl) (p0 : Nat) (p1 : Int32) (p2 : Int32) : SimK B_tx_append 3 [some (.ref p0), some (.int p1), some (.int p2)] [] S v (Y_tx_append_3 N  i3 S v p0 p1 p2) (ρpv S) := by
  unfold Y_tx_append_3
  refine sim_seg [(.iload_n 2, 0, 0, 0)] [] (q := 4) (L' := [some (.ref p0), some (.int p1), some (.int p2)]) (st' := [.int p2]) (v1 := v) (by decide +kernel) rfl trivial ?_
  refine sim_lt0 (o := 44) (tg := 48) (f := 7) (by decide +kernel) rfl rfl (fun _ => ?_) (fun _ => ?_)
  · exact sim_vret (by decide +kernel) rfl rfl
  · refine sim_grd fun h1 => ?_
    refine sim_bind fun r2 h3 => ?_
    refine sim_grd fun h4 => ?_
    refine sim_seg [(.aload_n 0, 0, 0, 0), (.getfield 26, 2, 1, 0), (.aload_n 0, 0, 0, 0), (.getfield 9, 2, 0, 0), (.arraylength, 0, 0, 0)] [r2] (q := 16) (L' := [some (.ref p0), some (.int p1), some (.int p2)]) (st' := [.int (nI (alen S r2)), .int (gi v p0 1)]) (v1 := v) (by decide +kernel) rfl ⟨h1, ⟨h1, h3⟩, ⟨_, _, h4, by decide⟩, trivial⟩ ?_
    refine sim_ge (o := 32) (tg := 48) (f := 19) (by decide +kernel) rfl rfl (fun _ => ?_) (fun _ => ?_)
    · refine sim_grd fun h5 => ?_
      refine sim_seg [(.aload_n 0, 0, 0, 0), (.getfield 9, 2, 0, 0), (.aload_n 0, 0, 0, 0), (.getfield 26, 2, 1, 0), (.iload_n 1, 0, 0, 0), (.iload_n 2, 0, 0, 0), (.ishr, 0, 0, 0), (.i2b, 0, 0, 0), (.bastore, 0, 0, 0), (.aload_n 0, 0, 0, 0), (.dup, 0, 0, 0)] [r2] (q := 34) (L' := [some (.ref p0), some (.int p1), some (.int p2)]) (st' := [.ref p0, .ref p0]) (v1 := (si v r2 (Int32.toNatClampNeg (gi v p0 1)) (Int8.toInt32 (Int32.toInt8 (Int8.toInt32 (Int32.toInt8 (p1 >>> (p2 &&& 31)))))))) (by decide +kernel) rfl ⟨⟨h1, h3⟩, h1, ⟨(kin_alen h4), h5⟩, trivial⟩ ?_
      refine sim_lt (x := (si v r2 (Int32.toNatClampNeg (gi v p0 1)) (Int8.toInt32 (Int32.toInt8 (Int8.toInt32 (Int32.toInt8 (p1 >>> (p2 &&& 31)))))))) ?_
      generalize (si v r2 (Int32.toNatClampNeg (gi v p0 1)) (Int8.toInt32 (Int32.toInt8 (Int8.toInt32 (Int32.toInt8 (p1 >>> (p2 &&& 31))))))) = w6
      refine sim_seg [(.getfield 26, 2, 1, 0), (.iconst 1, 0, 0, 1), (.iadd, 0, 0, 0), (.putfield 26, 2, 1, 0), (.iinc 2 (-8), 0, 0, (-8))] [] (q := 45) (L' := [some (.ref p0), some (.int p1), some (.int (p2 + (J (-8))))]) (st' := []) (v1 := (si w6 p0 1 ((gi w6 p0 1) + (J 1)))) (by decide +kernel) rfl ⟨h1, h1, trivial⟩ ?_
      refine sim_lt (x := (si w6 p0 1 ((gi w6 p0 1) + (J 1)))) ?_
      generalize (si w6 p0 1 ((gi w6 p0 1) + (J 1))) = w7
      refine sim_seg [(.goto (-42), 0, 0, 0)] [] (q := 3) (L' := [some (.ref p0), some (.int p1), some (.int (p2 + (J (-8))))]) (st' := []) (v1 := w7) (by decide +kernel) rfl trivial ?_
      exact j3 w7 p0 p1 (p2 + (J (-8)))
    · exact sim_vret (by decide +kernel) rfl rfl
theorem sR_tx_append_3 (N : Nat)  (S : shp)  (n : Nat) : ∀ (v : vl) (p0 : Nat) (p1 : Int32) (p2 : Int32), SimK B_tx_append 3 [some (.ref p0), some (.int p1), some (.int p2)] [] S v (K_tx_append_3 N  n S v p0 p1 p2) (ρpv S) := by
  induction n with
  | zero => intro v p0 p1 p2; exact sim_none
  | succ k ih => intro v p0 p1 p2; exact sY_tx_append_3 N   _ S  ih v p0 p1 p2
theorem sK_tx_append_3 (N : Nat)  (n : Nat) (S : shp) (v : vl) (p0 : Nat) (p1 : Int32) (p2 : Int32) : SimK B_tx_append 3 [some (.ref p0), some (.int p1), some (.int p2)] [] S v (K_tx_append_3 N  n S v p0 p1 p2) (ρpv S) := sR_tx_append_3 N   S  n  v p0 p1 p2
noncomputable def F_tx_append (N : Nat) (a0 : Nat) (b1 : Int32) (S : shp) (v : vl) : Option vl :=
  K_tx_append_3 N  N S v a0 b1 (J 24)
theorem ok_tx_append (N : Nat) (a0 : Nat) (b1 : Int32) (S : shp) (v : vl) : SimK B_tx_append 0 (entB (bN B_tx_append) [.ref a0, .int b1]) [] S v (F_tx_append N a0 b1 S v) (ρpv S) := by
  show SimK B_tx_append 0 [some (.ref a0), some (.int b1), none] [] S v (F_tx_append N a0 b1 S v) _
  unfold F_tx_append
  refine sim_seg [(.bipush 24, 0, 0, 24), (.istore_n 2, 0, 0, 0)] [] (q := 3) (L' := [some (.ref a0), some (.int b1), some (.int (J 24))]) (st' := []) (v1 := v) (by decide +kernel) rfl trivial ?_
  exact sK_tx_append_3 N N S v a0 b1 (J 24)
def B_gc_appendInput : bd := (⟨"GateCounter", "appendInput", "(IIIII)I"⟩, prog_1_method_2_code, 6, (some .int), [], 5, 1)
theorem m_gc_appendInput : mV B_gc_appendInput 5 5 := ⟨⟨⟨by decide +kernel, Or.inl rfl⟩, rfl, (List.mem_of_getElem? (i := 524) (by decide +kernel)), by decide +kernel, (List.mem_of_getElem? (i := 57) (by decide +kernel)), ⟨by decide, by decide⟩, by decide⟩, rfl, (by unfold nar; decide +kernel), (List.mem_of_getElem? (i := 522) (by decide +kernel)), rfl, (List.mem_of_getElem? (i := 523) (by decide +kernel))⟩
noncomputable def F_gc_appendInput (N : Nat) (a0 : Nat) (b1 : Int32) (b2 : Int32) (b3 : Int32) (b4 : Int32) (b5 : Int32) (S : shp) (v : vl) : Option (Int32 × vl) :=
  grd (kin S a0 = some (0, 5)) <| (gr S a0 0).bind fun r2 => grd (kin S r2 = some (0, 2)) <| (if (J 500) < ((gi v r2 1) + (J 20)) then some (((J (-1)), v)) else (F_tx_append N r2 b1 S v).bind fun w5 => (F_tx_append N r2 b2 S w5).bind fun w6 => (F_tx_append N r2 b3 S w6).bind fun w7 => (F_tx_append N r2 b4 S w7).bind fun w8 => (F_tx_append N r2 b5 S w8).bind fun w9 => some (((gi w9 r2 1), w9)))
theorem ok_gc_appendInput (N : Nat) (a0 : Nat) (b1 : Int32) (b2 : Int32) (b3 : Int32) (b4 : Int32) (b5 : Int32) (S : shp) (v : vl) : SimK B_gc_appendInput 0 (entB (bN B_gc_appendInput) [.ref a0, .int b1, .int b2, .int b3, .int b4, .int b5]) [] S v (F_gc_appendInput N a0 b1 b2 b3 b4 b5 S v) (ρpi S) := by
  show SimK B_gc_appendInput 0 [some (.ref a0), some (.int b1), some (.int b2), some (.int b3), some (.int b4), some (.int b5)] [] S v (F_gc_appendInput N a0 b1 b2 b3 b4 b5 S v) _
  unfold F_gc_appendInput
  refine sim_grd fun h1 => ?_
  refine sim_bind fun r2 h3 => ?_
  refine sim_grd fun h4 => ?_
  refine sim_seg [(.aload_n 0, 0, 0, 0), (.getfield 10, 5, 0, 0), (.getfield 43, 2, 1, 0), (.bipush 20, 0, 0, 20), (.iadd, 0, 0, 0), (.sipush 500, 0, 0, 500)] [r2] (q := 13) (L' := [some (.ref a0), some (.int b1), some (.int b2), some (.int b3), some (.int b4), some (.int b5)]) (st' := [.int (J 500), .int ((gi v r2 1) + (J 20))]) (v1 := v) (by decide +kernel) rfl ⟨⟨h1, h3⟩, h4, trivial⟩ ?_
  refine sim_le (o := 5) (tg := 18) (f := 16) (by decide +kernel) rfl rfl (fun _ => ?_) (fun _ => ?_)
  · refine sim_seg [(.iconst (-1), 0, 0, (-1))] [] (q := 17) (L' := [some (.ref a0), some (.int b1), some (.int b2), some (.int b3), some (.int b4), some (.int b5)]) (st' := [.int (J (-1))]) (v1 := v) (by decide +kernel) rfl trivial ?_
    exact sim_iret (by decide +kernel) rfl rfl rfl
  · refine sim_seg [(.aload_n 0, 0, 0, 0), (.getfield 10, 5, 0, 0), (.iload_n 1, 0, 0, 0)] [r2] (q := 23) (L' := [some (.ref a0), some (.int b1), some (.int b2), some (.int b3), some (.int b4), some (.int b5)]) (st' := [.int b1, .ref r2]) (v1 := v) (by decide +kernel) rfl ⟨⟨h1, h3⟩, trivial⟩ ?_
    refine sc_pv (pc3 := 26) (cf_V (idx := 47) (ci := 2) [.int b1] m_tx_append (by decide) ⟨by decide, by decide⟩ (List.mem_of_getElem? (i := 525) (by decide +kernel)) rfl (Nat.le_of_ble_eq_true rfl) h4 (by decide +kernel) (Nat.le_of_ble_eq_true rfl) rfl) (ok_tx_append N r2 b1 S v) rfl (fun w5 => ?_)
    refine sim_seg [(.aload_n 0, 0, 0, 0), (.getfield 10, 5, 0, 0), (.iload_n 2, 0, 0, 0)] [r2] (q := 31) (L' := [some (.ref a0), some (.int b1), some (.int b2), some (.int b3), some (.int b4), some (.int b5)]) (st' := [.int b2, .ref r2]) (v1 := w5) (by decide +kernel) rfl ⟨⟨h1, h3⟩, trivial⟩ ?_
    refine sc_pv (pc3 := 34) (cf_V (idx := 47) (ci := 2) [.int b2] m_tx_append (by decide) ⟨by decide, by decide⟩ (List.mem_of_getElem? (i := 525) (by decide +kernel)) rfl (Nat.le_of_ble_eq_true rfl) h4 (by decide +kernel) (Nat.le_of_ble_eq_true rfl) rfl) (ok_tx_append N r2 b2 S w5) rfl (fun w6 => ?_)
    refine sim_seg [(.aload_n 0, 0, 0, 0), (.getfield 10, 5, 0, 0), (.iload_n 3, 0, 0, 0)] [r2] (q := 39) (L' := [some (.ref a0), some (.int b1), some (.int b2), some (.int b3), some (.int b4), some (.int b5)]) (st' := [.int b3, .ref r2]) (v1 := w6) (by decide +kernel) rfl ⟨⟨h1, h3⟩, trivial⟩ ?_
    refine sc_pv (pc3 := 42) (cf_V (idx := 47) (ci := 2) [.int b3] m_tx_append (by decide) ⟨by decide, by decide⟩ (List.mem_of_getElem? (i := 525) (by decide +kernel)) rfl (Nat.le_of_ble_eq_true rfl) h4 (by decide +kernel) (Nat.le_of_ble_eq_true rfl) rfl) (ok_tx_append N r2 b3 S w6) rfl (fun w7 => ?_)
    refine sim_seg [(.aload_n 0, 0, 0, 0), (.getfield 10, 5, 0, 0), (.iload 4, 0, 0, 0)] [r2] (q := 48) (L' := [some (.ref a0), some (.int b1), some (.int b2), some (.int b3), some (.int b4), some (.int b5)]) (st' := [.int b4, .ref r2]) (v1 := w7) (by decide +kernel) rfl ⟨⟨h1, h3⟩, trivial⟩ ?_
    refine sc_pv (pc3 := 51) (cf_V (idx := 47) (ci := 2) [.int b4] m_tx_append (by decide) ⟨by decide, by decide⟩ (List.mem_of_getElem? (i := 525) (by decide +kernel)) rfl (Nat.le_of_ble_eq_true rfl) h4 (by decide +kernel) (Nat.le_of_ble_eq_true rfl) rfl) (ok_tx_append N r2 b4 S w7) rfl (fun w8 => ?_)
    refine sim_seg [(.aload_n 0, 0, 0, 0), (.getfield 10, 5, 0, 0), (.iload 5, 0, 0, 0)] [r2] (q := 57) (L' := [some (.ref a0), some (.int b1), some (.int b2), some (.int b3), some (.int b4), some (.int b5)]) (st' := [.int b5, .ref r2]) (v1 := w8) (by decide +kernel) rfl ⟨⟨h1, h3⟩, trivial⟩ ?_
    refine sc_pv (pc3 := 60) (cf_V (idx := 47) (ci := 2) [.int b5] m_tx_append (by decide) ⟨by decide, by decide⟩ (List.mem_of_getElem? (i := 525) (by decide +kernel)) rfl (Nat.le_of_ble_eq_true rfl) h4 (by decide +kernel) (Nat.le_of_ble_eq_true rfl) rfl) (ok_tx_append N r2 b5 S w8) rfl (fun w9 => ?_)
    refine sim_seg [(.aload_n 0, 0, 0, 0), (.getfield 10, 5, 0, 0), (.getfield 43, 2, 1, 0)] [r2] (q := 67) (L' := [some (.ref a0), some (.int b1), some (.int b2), some (.int b3), some (.int b4), some (.int b5)]) (st' := [.int (gi w9 r2 1)]) (v1 := w9) (by decide +kernel) rfl ⟨⟨h1, h3⟩, h4, trivial⟩ ?_
    exact sim_iret (by decide +kernel) rfl rfl rfl
def B_gc_truncateInput : bd := (⟨"GateCounter", "truncateInput", "(I)Z"⟩, prog_1_method_3_code, 2, (some .boolean), [], 5, 0)
theorem m_gc_truncateInput : mV B_gc_truncateInput 5 1 := ⟨⟨⟨by decide +kernel, Or.inl rfl⟩, rfl, (List.mem_of_getElem? (i := 532) (by decide +kernel)), by decide +kernel, (List.mem_of_getElem? (i := 57) (by decide +kernel)), ⟨by decide, by decide⟩, by decide⟩, rfl, (by unfold nar; decide +kernel), (List.mem_of_getElem? (i := 530) (by decide +kernel)), rfl, (List.mem_of_getElem? (i := 531) (by decide +kernel))⟩
noncomputable def F_gc_truncateInput (a0 : Nat) (b1 : Int32) (S : shp) (v : vl) : Option (Int32 × vl) :=
  (if b1 < (J 0) then some (((J 0), v)) else grd (kin S a0 = some (0, 5)) <| (gr S a0 0).bind fun r2 => grd (kin S r2 = some (0, 2)) <| (if (gi v r2 1) < b1 then some (((J 0), v)) else lt (si v r2 1 b1) fun w5 => some (((J 1), w5))))
theorem ok_gc_truncateInput (a0 : Nat) (b1 : Int32) (S : shp) (v : vl) : SimK B_gc_truncateInput 0 (entB (bN B_gc_truncateInput) [.ref a0, .int b1]) [] S v (F_gc_truncateInput a0 b1 S v) (ρpi S) := by
  show SimK B_gc_truncateInput 0 [some (.ref a0), some (.int b1)] [] S v (F_gc_truncateInput a0 b1 S v) _
  unfold F_gc_truncateInput
  refine sim_seg [(.iload_n 1, 0, 0, 0)] [] (q := 1) (L' := [some (.ref a0), some (.int b1)]) (st' := [.int b1]) (v1 := v) (by decide +kernel) rfl trivial ?_
  refine sim_lt0 (o := 14) (tg := 15) (f := 4) (by decide +kernel) rfl rfl (fun _ => ?_) (fun _ => ?_)
  · refine sim_seg [(.iconst 0, 0, 0, 0)] [] (q := 16) (L' := [some (.ref a0), some (.int b1)]) (st' := [.int (J 0)]) (v1 := v) (by decide +kernel) rfl trivial ?_
    exact sim_iret (by decide +kernel) rfl (by decide) rfl
  · refine sim_grd fun h1 => ?_
    refine sim_bind fun r2 h3 => ?_
    refine sim_grd fun h4 => ?_
    refine sim_seg [(.iload_n 1, 0, 0, 0), (.aload_n 0, 0, 0, 0), (.getfield 10, 5, 0, 0), (.getfield 43, 2, 1, 0)] [r2] (q := 12) (L' := [some (.ref a0), some (.int b1)]) (st' := [.int (gi v r2 1), .int b1]) (v1 := v) (by decide +kernel) rfl ⟨⟨h1, h3⟩, h4, trivial⟩ ?_
    refine sim_le (o := 5) (tg := 17) (f := 15) (by decide +kernel) rfl rfl (fun _ => ?_) (fun _ => ?_)
    · refine sim_seg [(.iconst 0, 0, 0, 0)] [] (q := 16) (L' := [some (.ref a0), some (.int b1)]) (st' := [.int (J 0)]) (v1 := v) (by decide +kernel) rfl trivial ?_
      exact sim_iret (by decide +kernel) rfl (by decide) rfl
    · refine sim_seg [(.aload_n 0, 0, 0, 0), (.getfield 10, 5, 0, 0), (.iload_n 1, 0, 0, 0), (.putfield 43, 2, 1, 0), (.iconst 1, 0, 0, 1)] [r2] (q := 26) (L' := [some (.ref a0), some (.int b1)]) (st' := [.int (J 1)]) (v1 := (si v r2 1 b1)) (by decide +kernel) rfl ⟨⟨h1, h3⟩, h4, trivial⟩ ?_
      refine sim_lt (x := (si v r2 1 b1)) ?_
      generalize (si v r2 1 b1) = w5
      exact sim_iret (by decide +kernel) rfl (by decide) rfl
