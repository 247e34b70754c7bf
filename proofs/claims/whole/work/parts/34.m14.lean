/-! Methods: gm_sharpest, gm_keepsPast, gm_remembers, gm_run, gm_runTo, gm_refuses, gm_stays, gm_waitOutput, gm_keeps, gm_makes, gm_gate, gm_period, gm_chooses, gm_choose, gm_calibrate, gm_setPrescale, gm_mayBe, gm_set, gm_addSegment. -/
def B_gm_sharpest : bd := (⟨"GateCounterModel", "sharpest", "()I"⟩, prog_8_method_106_code, 3, (some .int), [], 6, 2)
theorem m_gm_sharpest : mV B_gm_sharpest 6 0 := ⟨⟨⟨by decide +kernel, Or.inl rfl⟩, rfl, (List.mem_of_getElem? (i := 2111) (by decide +kernel)), by decide +kernel, (List.mem_of_getElem? (i := 104) (by decide +kernel)), ⟨by decide, by decide⟩, by decide⟩, rfl, (by unfold nar; decide +kernel), (List.mem_of_getElem? (i := 2109) (by decide +kernel)), rfl, (List.mem_of_getElem? (i := 2110) (by decide +kernel))⟩
noncomputable def Y_gm_sharpest_9 (N : Nat)  (i9 : vl → Nat → Int32 → Int32 → Option (Int32 × vl)) (S : shp) (v : vl) (p0 : Nat) (p1 : Int32) (p2 : Int32) : Option (Int32 × vl) :=
  grd (kin S p0 = some (0, 6)) <| (gr S p0 0).bind fun r4 => grd (kin S r4 = some (1, 199)) <| (if p2 < (gi v r4 22) then (if p1 = (J (-1)) then i9 v p0 p2 (p2 + (J 1)) else (F_gm_of p0 p2 (J 5) S v).bind fun x7 => (F_gm_of p0 p1 (J 5) S v).bind fun x8 => (if x7 < x8 then i9 v p0 p1 (p2 + (J 1)) else i9 v p0 p2 (p2 + (J 1)))) else some ((p1, v)))
noncomputable def K_gm_sharpest_9 (N : Nat)  (n : Nat) (S : shp) : vl → Nat → Int32 → Int32 → Option (Int32 × vl) :=
  Nat.rec (motive := fun _ => vl → Nat → Int32 → Int32 → Option (Int32 × vl)) (fun _ _ _ _ => none) (fun _ i => Y_gm_sharpest_9 N  i S) n
theorem sY_gm_sharpest_9 (N : Nat)  (i9 : vl → Nat → Int32 → Int32 → Option (Int32 × vl)) (S : shp)  (j9 : ∀ (v : vl) (p0 : Nat) (p1 : Int32) (p2 : Int32), SimK B_gm_sharpest 9 [some (.ref p0), some (.int p1), some (.int p2)] [] S v (i9 v p0 p1 p2) (ρpi S)) (v : vl) (p0 : Nat) (p1 : Int32) (p2 : Int32) : SimK B_gm_sharpest 9 [some (.ref p0), some (.int p1), some (.int p2)] [] S v (Y_gm_sharpest_9 N  i9 S v p0 p1 p2) (ρpi S) := by
  unfold Y_gm_sharpest_9
  refine sim_grd fun h3 => ?_
  refine sim_bind fun r4 h5 => ?_
  refine sim_grd fun h6 => ?_
  refine sim_seg [(.iload_n 2, 0, 0, 0), (.aload_n 0, 0, 0, 0), (.getfield 7, 6, 0, 0), (.bipush 22, 0, 0, 22), (.iaload, 0, 0, 0)] [r4] (q := 17) (L' := [some (.ref p0), some (.int p1), some (.int p2)]) (st' := [.int (gi v r4 22), .int p2]) (v1 := v) (by decide +kernel) rfl ⟨⟨h3, h5⟩, ⟨(Or.inl (kin_alen h6)), (vin_J h6 (by unfold vp_in; decide))⟩, trivial⟩ ?_
  refine sim_ge (o := 31) (tg := 48) (f := 20) (by decide +kernel) rfl rfl (fun _ => ?_) (fun _ => ?_)
  · refine sim_seg [(.iload_n 1, 0, 0, 0), (.iconst (-1), 0, 0, (-1))] [] (q := 22) (L' := [some (.ref p0), some (.int p1), some (.int p2)]) (st' := [.int (J (-1)), .int p1]) (v1 := v) (by decide +kernel) rfl trivial ?_
    refine sim_eq (o := 18) (tg := 40) (f := 25) (by decide +kernel) rfl rfl (fun _ => ?_) (fun _ => ?_)
    · refine sim_seg [(.iload_n 2, 0, 0, 0), (.istore_n 1, 0, 0, 0)] [] (q := 42) (L' := [some (.ref p0), some (.int p2), some (.int p2)]) (st' := []) (v1 := v) (by decide +kernel) rfl trivial ?_
      refine sim_seg [(.iinc 2 1, 0, 0, 1)] [] (q := 45) (L' := [some (.ref p0), some (.int p2), some (.int (p2 + (J 1)))]) (st' := []) (v1 := v) (by decide +kernel) rfl trivial ?_
      refine sim_seg [(.goto (-36), 0, 0, 0)] [] (q := 9) (L' := [some (.ref p0), some (.int p2), some (.int (p2 + (J 1)))]) (st' := []) (v1 := v) (by decide +kernel) rfl trivial ?_
      exact j9 v p0 p2 (p2 + (J 1))
    · refine sim_seg [(.aload_n 0, 0, 0, 0), (.iload_n 2, 0, 0, 0), (.iconst 5, 0, 0, 5)] [] (q := 28) (L' := [some (.ref p0), some (.int p1), some (.int p2)]) (st' := [.int (J 5), .int p2, .ref p0]) (v1 := v) (by decide +kernel) rfl trivial ?_
      refine sc_ri (pc3 := 31) (cf_V (idx := 155) (ci := 6) [.int p2, .int (J 5)] m_gm_of (by decide) ⟨by decide, by decide⟩ (List.mem_of_getElem? (i := 1847) (by decide +kernel)) rfl (Nat.le_of_ble_eq_true rfl) h3 (by decide +kernel) (Nat.le_of_ble_eq_true rfl) rfl) (ok_gm_of p0 p2 (J 5) S v) rfl (fun x7 => ?_)
      refine sim_seg [(.aload_n 0, 0, 0, 0), (.iload_n 1, 0, 0, 0), (.iconst 5, 0, 0, 5)] [] (q := 34) (L' := [some (.ref p0), some (.int p1), some (.int p2)]) (st' := [.int (J 5), .int p1, .ref p0, .int x7]) (v1 := v) (by decide +kernel) rfl trivial ?_
      refine sc_ri (pc3 := 37) (cf_V (idx := 155) (ci := 6) [.int p1, .int (J 5)] m_gm_of (by decide) ⟨by decide, by decide⟩ (List.mem_of_getElem? (i := 1847) (by decide +kernel)) rfl (Nat.le_of_ble_eq_true rfl) h3 (by decide +kernel) (Nat.le_of_ble_eq_true rfl) rfl) (ok_gm_of p0 p1 (J 5) S v) rfl (fun x8 => ?_)
      refine sim_lt' (o := 5) (tg := 42) (f := 40) (by decide +kernel) rfl rfl (fun _ => ?_) (fun _ => ?_)
      · refine sim_seg [(.iinc 2 1, 0, 0, 1)] [] (q := 45) (L' := [some (.ref p0), some (.int p1), some (.int (p2 + (J 1)))]) (st' := []) (v1 := v) (by decide +kernel) rfl trivial ?_
        refine sim_seg [(.goto (-36), 0, 0, 0)] [] (q := 9) (L' := [some (.ref p0), some (.int p1), some (.int (p2 + (J 1)))]) (st' := []) (v1 := v) (by decide +kernel) rfl trivial ?_
        exact j9 v p0 p1 (p2 + (J 1))
      · refine sim_seg [(.iload_n 2, 0, 0, 0), (.istore_n 1, 0, 0, 0)] [] (q := 42) (L' := [some (.ref p0), some (.int p2), some (.int p2)]) (st' := []) (v1 := v) (by decide +kernel) rfl trivial ?_
        refine sim_seg [(.iinc 2 1, 0, 0, 1)] [] (q := 45) (L' := [some (.ref p0), some (.int p2), some (.int (p2 + (J 1)))]) (st' := []) (v1 := v) (by decide +kernel) rfl trivial ?_
        refine sim_seg [(.goto (-36), 0, 0, 0)] [] (q := 9) (L' := [some (.ref p0), some (.int p2), some (.int (p2 + (J 1)))]) (st' := []) (v1 := v) (by decide +kernel) rfl trivial ?_
        exact j9 v p0 p2 (p2 + (J 1))
  · refine sim_seg [(.iload_n 1, 0, 0, 0)] [] (q := 49) (L' := [some (.ref p0), some (.int p1), some (.int p2)]) (st' := [.int p1]) (v1 := v) (by decide +kernel) rfl trivial ?_
    exact sim_iret (by decide +kernel) rfl rfl rfl
theorem sR_gm_sharpest_9 (N : Nat)  (S : shp)  (n : Nat) : ∀ (v : vl) (p0 : Nat) (p1 : Int32) (p2 : Int32), SimK B_gm_sharpest 9 [some (.ref p0), some (.int p1), some (.int p2)] [] S v (K_gm_sharpest_9 N  n S v p0 p1 p2) (ρpi S) := by
  induction n with
  | zero => intro v p0 p1 p2; exact sim_none
  | succ k ih => intro v p0 p1 p2; exact sY_gm_sharpest_9 N   _ S  ih v p0 p1 p2
theorem sK_gm_sharpest_9 (N : Nat)  (n : Nat) (S : shp) (v : vl) (p0 : Nat) (p1 : Int32) (p2 : Int32) : SimK B_gm_sharpest 9 [some (.ref p0), some (.int p1), some (.int p2)] [] S v (K_gm_sharpest_9 N  n S v p0 p1 p2) (ρpi S) := sR_gm_sharpest_9 N   S  n  v p0 p1 p2
noncomputable def F_gm_sharpest (N : Nat) (a0 : Nat) (S : shp) (v : vl) : Option (Int32 × vl) :=
  grd (kin S a0 = some (0, 6)) <| lt (si v a0 10 (J 0)) fun w2 => K_gm_sharpest_9 N  N S w2 a0 (J (-1)) (J 0)
theorem ok_gm_sharpest (N : Nat) (a0 : Nat) (S : shp) (v : vl) : SimK B_gm_sharpest 0 (entB (bN B_gm_sharpest) [.ref a0]) [] S v (F_gm_sharpest N a0 S v) (ρpi S) := by
  show SimK B_gm_sharpest 0 [some (.ref a0), none, none] [] S v (F_gm_sharpest N a0 S v) _
  unfold F_gm_sharpest
  refine sim_grd fun h1 => ?_
  refine sim_seg [(.aload_n 0, 0, 0, 0), (.iconst 0, 0, 0, 0), (.putfield 38, 6, 10, 0), (.iconst (-1), 0, 0, (-1)), (.istore_n 1, 0, 0, 0)] [] (q := 7) (L' := [some (.ref a0), some (.int (J (-1))), none]) (st' := []) (v1 := (si v a0 10 (J 0))) (by decide +kernel) rfl ⟨h1, trivial⟩ ?_
  refine sim_lt (x := (si v a0 10 (J 0))) ?_
  generalize (si v a0 10 (J 0)) = w2
  refine sim_seg [(.iconst 0, 0, 0, 0), (.istore_n 2, 0, 0, 0)] [] (q := 9) (L' := [some (.ref a0), some (.int (J (-1))), some (.int (J 0))]) (st' := []) (v1 := w2) (by decide +kernel) rfl trivial ?_
  exact sK_gm_sharpest_9 N N S w2 a0 (J (-1)) (J 0)
def B_gm_keepsPast : bd := (⟨"GateCounterModel", "keepsPast", "([I)V"⟩, prog_8_method_8_code, 2, none, [], 6, 1)
theorem m_gm_keepsPast : mV B_gm_keepsPast 6 1 := ⟨⟨⟨by decide +kernel, Or.inl rfl⟩, rfl, (List.mem_of_getElem? (i := 2123) (by decide +kernel)), by decide +kernel, (List.mem_of_getElem? (i := 104) (by decide +kernel)), ⟨by decide, by decide⟩, by decide⟩, rfl, (by unfold nar; decide +kernel), (List.mem_of_getElem? (i := 2122) (by decide +kernel)), rfl, (List.mem_of_getElem? (i := 85) (by decide +kernel))⟩
noncomputable def K_gm_keepsPast_37 (N : Nat)  (S : shp) (v : vl) (p0 : Nat) (p1 : Nat) : Option vl :=
  grd (kin S p0 = some (0, 6)) <| (gr S p0 4).bind fun r7 => (F_gm_copies N p1 (J 0) r7 ((J 199) * (gi v p0 5)) (J 199) S v).bind fun w9 => lt (si w9 p0 5 ((gi w9 p0 5) + (J 1))) fun w10 => some (w10)
theorem sK_gm_keepsPast_37 (N : Nat)   (S : shp) (v : vl) (p0 : Nat) (p1 : Nat) : SimK B_gm_keepsPast 37 [some (.ref p0), some (.ref p1)] [] S v (K_gm_keepsPast_37 N  S v p0 p1) (ρpv S) := by
  unfold K_gm_keepsPast_37
  refine sim_grd fun h6 => ?_
  refine sim_bind fun r7 h8 => ?_
  refine sim_seg [(.aload_n 1, 0, 0, 0), (.iconst 0, 0, 0, 0), (.aload_n 0, 0, 0, 0), (.getfield 22, 6, 4, 0), (.sipush 199, 0, 0, 199), (.aload_n 0, 0, 0, 0), (.getfield 45, 6, 5, 0), (.imul, 0, 0, 0), (.sipush 199, 0, 0, 199)] [r7] (q := 54) (L' := [some (.ref p0), some (.ref p1)]) (st' := [.int (J 199), .int ((J 199) * (gi v p0 5)), .ref r7, .int (J 0), .ref p1]) (v1 := v) (by decide +kernel) rfl ⟨⟨h6, h8⟩, h6, trivial⟩ ?_
  refine sc_pv (pc3 := 57) (cf_S (idx := 48) [.ref p1, .int (J 0), .ref r7, .int ((J 199) * (gi v p0 5)), .int (J 199)] m_gm_copies ⟨by decide, by decide⟩ (List.mem_of_getElem? (i := 1719) (by decide +kernel)) rfl (Nat.le_of_ble_eq_true rfl) (by decide +kernel) (Nat.le_of_ble_eq_true rfl) rfl) (ok_gm_copies N p1 (J 0) r7 ((J 199) * (gi v p0 5)) (J 199) S v) rfl (fun w9 => ?_)
  refine sim_seg [(.aload_n 0, 0, 0, 0), (.dup, 0, 0, 0), (.getfield 45, 6, 5, 0), (.iconst 1, 0, 0, 1), (.iadd, 0, 0, 0), (.putfield 45, 6, 5, 0)] [] (q := 67) (L' := [some (.ref p0), some (.ref p1)]) (st' := []) (v1 := (si w9 p0 5 ((gi w9 p0 5) + (J 1)))) (by decide +kernel) rfl ⟨h6, h6, trivial⟩ ?_
  refine sim_lt (x := (si w9 p0 5 ((gi w9 p0 5) + (J 1)))) ?_
  generalize (si w9 p0 5 ((gi w9 p0 5) + (J 1))) = w10
  exact sim_vret (by decide +kernel) rfl rfl
noncomputable def F_gm_keepsPast (N : Nat) (a0 : Nat) (a1 : Nat) (S : shp) (v : vl) : Option vl :=
  grd (kin S a0 = some (0, 6)) <| (if (gi v a0 5) = (J 8) then (gr S a0 4).bind fun r2 => (F_gm_copies N r2 (J 199) r2 (J 0) (J 1393) S v).bind fun w4 => lt (si w4 a0 5 ((gi w4 a0 5) - (J 1))) fun w5 => K_gm_keepsPast_37 N  S w5 a0 a1 else K_gm_keepsPast_37 N  S v a0 a1)
theorem ok_gm_keepsPast (N : Nat) (a0 : Nat) (a1 : Nat) (S : shp) (v : vl) : SimK B_gm_keepsPast 0 (entB (bN B_gm_keepsPast) [.ref a0, .ref a1]) [] S v (F_gm_keepsPast N a0 a1 S v) (ρpv S) := by
  show SimK B_gm_keepsPast 0 [some (.ref a0), some (.ref a1)] [] S v (F_gm_keepsPast N a0 a1 S v) _
  unfold F_gm_keepsPast
  refine sim_grd fun h1 => ?_
  refine sim_seg [(.aload_n 0, 0, 0, 0), (.getfield 45, 6, 5, 0), (.bipush 8, 0, 0, 8)] [] (q := 6) (L' := [some (.ref a0), some (.ref a1)]) (st' := [.int (J 8), .int (gi v a0 5)]) (v1 := v) (by decide +kernel) rfl ⟨h1, trivial⟩ ?_
  refine sim_ne (o := 31) (tg := 37) (f := 9) (by decide +kernel) rfl rfl (fun _ => ?_) (fun _ => ?_)
  · refine sim_bind fun r2 h3 => ?_
    refine sim_seg [(.aload_n 0, 0, 0, 0), (.getfield 22, 6, 4, 0), (.sipush 199, 0, 0, 199), (.aload_n 0, 0, 0, 0), (.getfield 22, 6, 4, 0), (.iconst 0, 0, 0, 0), (.sipush 1393, 0, 0, 1393)] [r2, r2] (q := 24) (L' := [some (.ref a0), some (.ref a1)]) (st' := [.int (J 1393), .int (J 0), .ref r2, .int (J 199), .ref r2]) (v1 := v) (by decide +kernel) rfl ⟨⟨h1, h3⟩, ⟨h1, h3⟩, trivial⟩ ?_
    refine sc_pv (pc3 := 27) (cf_S (idx := 48) [.ref r2, .int (J 199), .ref r2, .int (J 0), .int (J 1393)] m_gm_copies ⟨by decide, by decide⟩ (List.mem_of_getElem? (i := 1719) (by decide +kernel)) rfl (Nat.le_of_ble_eq_true rfl) (by decide +kernel) (Nat.le_of_ble_eq_true rfl) rfl) (ok_gm_copies N r2 (J 199) r2 (J 0) (J 1393) S v) rfl (fun w4 => ?_)
    refine sim_seg [(.aload_n 0, 0, 0, 0), (.dup, 0, 0, 0), (.getfield 45, 6, 5, 0), (.iconst 1, 0, 0, 1), (.isub, 0, 0, 0), (.putfield 45, 6, 5, 0)] [] (q := 37) (L' := [some (.ref a0), some (.ref a1)]) (st' := []) (v1 := (si w4 a0 5 ((gi w4 a0 5) - (J 1)))) (by decide +kernel) rfl ⟨h1, h1, trivial⟩ ?_
    refine sim_lt (x := (si w4 a0 5 ((gi w4 a0 5) - (J 1)))) ?_
    generalize (si w4 a0 5 ((gi w4 a0 5) - (J 1))) = w5
    exact sK_gm_keepsPast_37 N S w5 a0 a1
  · exact sK_gm_keepsPast_37 N S v a0 a1
def B_gm_remembers : bd := (⟨"GateCounterModel", "remembers", "()V"⟩, prog_8_method_9_code, 1, none, [], 6, 2)
theorem m_gm_remembers : mV B_gm_remembers 6 0 := ⟨⟨⟨by decide +kernel, Or.inl rfl⟩, rfl, (List.mem_of_getElem? (i := 2119) (by decide +kernel)), by decide +kernel, (List.mem_of_getElem? (i := 104) (by decide +kernel)), ⟨by decide, by decide⟩, by decide⟩, rfl, (by unfold nar; decide +kernel), (List.mem_of_getElem? (i := 2118) (by decide +kernel)), rfl, (List.mem_of_getElem? (i := 84) (by decide +kernel))⟩
noncomputable def F_gm_remembers (N : Nat) (a0 : Nat) (S : shp) (v : vl) : Option vl :=
  grd (kin S a0 = some (0, 6)) <| (gr S a0 0).bind fun r2 => (F_gm_keepsPast N a0 r2 S v).bind fun w4 => some (w4)
theorem ok_gm_remembers (N : Nat) (a0 : Nat) (S : shp) (v : vl) : SimK B_gm_remembers 0 (entB (bN B_gm_remembers) [.ref a0]) [] S v (F_gm_remembers N a0 S v) (ρpv S) := by
  show SimK B_gm_remembers 0 [some (.ref a0)] [] S v (F_gm_remembers N a0 S v) _
  unfold F_gm_remembers
  refine sim_grd fun h1 => ?_
  refine sim_bind fun r2 h3 => ?_
  refine sim_seg [(.aload_n 0, 0, 0, 0), (.aload_n 0, 0, 0, 0), (.getfield 7, 6, 0, 0)] [r2] (q := 5) (L' := [some (.ref a0)]) (st' := [.ref r2, .ref a0]) (v1 := v) (by decide +kernel) rfl ⟨⟨h1, h3⟩, trivial⟩ ?_
  refine sc_pv (pc3 := 8) (cf_V (idx := 52) (ci := 6) [.ref r2] m_gm_keepsPast (by decide) ⟨by decide, by decide⟩ (List.mem_of_getElem? (i := 2120) (by decide +kernel)) rfl (Nat.le_of_ble_eq_true rfl) h1 (by decide +kernel) (Nat.le_of_ble_eq_true rfl) rfl) (ok_gm_keepsPast N a0 r2 S v) rfl (fun w4 => ?_)
  exact sim_vret (by decide +kernel) rfl rfl
def B_gm_run : bd := (⟨"GateCounterModel", "run", "(I)I"⟩, prog_8_method_107_code, 3, (some .int), [], 6, 5)
theorem m_gm_run : mV B_gm_run 6 1 := ⟨⟨⟨by decide +kernel, Or.inl rfl⟩, rfl, (List.mem_of_getElem? (i := 2115) (by decide +kernel)), by decide +kernel, (List.mem_of_getElem? (i := 104) (by decide +kernel)), ⟨by decide, by decide⟩, by decide⟩, rfl, (by unfold nar; decide +kernel), (List.mem_of_getElem? (i := 2113) (by decide +kernel)), rfl, (List.mem_of_getElem? (i := 2114) (by decide +kernel))⟩
noncomputable def K_gm_run_48 (N : Nat)  (S : shp) (v : vl) (p0 : Nat) (p1 : Int32) (s0 : Nat) (s1 : Int32) : Option (Int32 × vl) :=
  grd (kin S s0 = some (0, 6)) <| (F_gm_fails s0 s1 (J 2) S v).bind fun (x12, w13) => (if x12 = (J 0) then grd (kin S p0 = some (0, 6)) <| (F_gm_remembers N p0 S w13).bind fun w15 => (gr S p0 0).bind fun r16 => grd (kin S r16 = some (1, 199)) <| (F_gm_goesTo N p0 ((gi w15 r16 0) + p1) S w15).bind fun w19 => some ((((gi w19 r16 14) - (gi w15 r16 14)), w19)) else some (((J 0), w13)))
theorem sK_gm_run_48 (N : Nat)   (S : shp) (v : vl) (p0 : Nat) (p1 : Int32) (s0 : Nat) (s1 : Int32) : SimK B_gm_run 48 [some (.ref p0), some (.int p1), none] [.int s1, .ref s0] S v (K_gm_run_48 N  S v p0 p1 s0 s1) (ρpi S) := by
  unfold K_gm_run_48
  refine sim_seg [(.iconst 2, 0, 0, 2)] [] (q := 49) (L' := [some (.ref p0), some (.int p1), none]) (st' := [.int (J 2), .int s1, .ref s0]) (v1 := v) (by decide +kernel) rfl trivial ?_
  refine sim_grd fun h11 => ?_
  refine sc_pi (pc3 := 52) (cf_V (idx := 279) (ci := 6) [.int s1, .int (J 2)] m_gm_fails (by decide) ⟨by decide, by decide⟩ (List.mem_of_getElem? (i := 1827) (by decide +kernel)) rfl (Nat.le_of_ble_eq_true rfl) h11 (by decide +kernel) (Nat.le_of_ble_eq_true rfl) rfl) (ok_gm_fails s0 s1 (J 2) S v) rfl (fun x12 w13 => ?_)
  refine sim_eq0 (o := 5) (tg := 57) (f := 55) (by decide +kernel) rfl rfl (fun _ => ?_) (fun _ => ?_)
  · refine sim_seg [(.aload_n 0, 0, 0, 0)] [] (q := 58) (L' := [some (.ref p0), some (.int p1), none]) (st' := [.ref p0]) (v1 := w13) (by decide +kernel) rfl trivial ?_
    refine sim_grd fun h14 => ?_
    refine sc_pv (pc3 := 61) (cf_V (idx := 337) (ci := 6) [] m_gm_remembers (by decide) ⟨by decide, by decide⟩ (List.mem_of_getElem? (i := 2116) (by decide +kernel)) rfl (Nat.le_of_ble_eq_true rfl) h14 (by decide +kernel) (Nat.le_of_ble_eq_true rfl) rfl) (ok_gm_remembers N p0 S w13) rfl (fun w15 => ?_)
    refine sim_bind fun r16 h17 => ?_
    refine sim_grd fun h18 => ?_
    refine sim_seg [(.aload_n 0, 0, 0, 0), (.getfield 7, 6, 0, 0), (.bipush 14, 0, 0, 14), (.iaload, 0, 0, 0), (.istore_n 2, 0, 0, 0)] [r16] (q := 69) (L' := [some (.ref p0), some (.int p1), some (.int (gi w15 r16 14))]) (st' := []) (v1 := w15) (by decide +kernel) rfl ⟨⟨h14, h17⟩, ⟨(Or.inl (kin_alen h18)), (vin_J h18 (by unfold vp_in; decide))⟩, trivial⟩ ?_
    refine sim_seg [(.aload_n 0, 0, 0, 0), (.aload_n 0, 0, 0, 0), (.getfield 7, 6, 0, 0), (.iconst 0, 0, 0, 0), (.iaload, 0, 0, 0), (.iload_n 1, 0, 0, 0), (.iadd, 0, 0, 0)] [r16] (q := 78) (L' := [some (.ref p0), some (.int p1), some (.int (gi w15 r16 14))]) (st' := [.int ((gi w15 r16 0) + p1), .ref p0]) (v1 := w15) (by decide +kernel) rfl ⟨⟨h14, h17⟩, ⟨(Or.inl (kin_alen h18)), (vin_J h18 (by unfold vp_in; decide))⟩, trivial⟩ ?_
    refine sc_pv (pc3 := 81) (cf_V (idx := 298) (ci := 6) [.int ((gi w15 r16 0) + p1)] m_gm_goesTo (by decide) ⟨by decide, by decide⟩ (List.mem_of_getElem? (i := 1888) (by decide +kernel)) rfl (Nat.le_of_ble_eq_true rfl) h14 (by decide +kernel) (Nat.le_of_ble_eq_true rfl) rfl) (ok_gm_goesTo N p0 ((gi w15 r16 0) + p1) S w15) rfl (fun w19 => ?_)
    refine sim_seg [(.aload_n 0, 0, 0, 0), (.getfield 7, 6, 0, 0), (.bipush 14, 0, 0, 14), (.iaload, 0, 0, 0), (.iload_n 2, 0, 0, 0), (.isub, 0, 0, 0)] [r16] (q := 90) (L' := [some (.ref p0), some (.int p1), some (.int (gi w15 r16 14))]) (st' := [.int ((gi w19 r16 14) - (gi w15 r16 14))]) (v1 := w19) (by decide +kernel) rfl ⟨⟨h14, h17⟩, ⟨(Or.inl (kin_alen h18)), (vin_J h18 (by unfold vp_in; decide))⟩, trivial⟩ ?_
    exact sim_iret (by decide +kernel) rfl rfl rfl
  · refine sim_seg [(.iconst 0, 0, 0, 0)] [] (q := 56) (L' := [some (.ref p0), some (.int p1), none]) (st' := [.int (J 0)]) (v1 := w13) (by decide +kernel) rfl trivial ?_
    exact sim_iret (by decide +kernel) rfl rfl rfl
noncomputable def K_gm_run_22 (N : Nat)  (S : shp) (v : vl) (p0 : Nat) (p1 : Int32) (s0 : Nat) (s1 : Int32) : Option (Int32 × vl) :=
  grd (kin S s0 = some (0, 6)) <| (F_gm_fails s0 s1 (J 1) S v).bind fun (x5, w6) => (if x5 = (J 0) then grd (kin S p0 = some (0, 6)) <| (gr S p0 0).bind fun r8 => grd (kin S r8 = some (1, 199)) <| (if (J 2000000) < ((gi w6 r8 0) + p1) then K_gm_run_48 N  S w6 p0 p1 p0 (J 1) else K_gm_run_48 N  S w6 p0 p1 p0 (J 0)) else some (((J 0), w6)))
theorem sK_gm_run_22 (N : Nat)   (S : shp) (v : vl) (p0 : Nat) (p1 : Int32) (s0 : Nat) (s1 : Int32) : SimK B_gm_run 22 [some (.ref p0), some (.int p1), none] [.int s1, .ref s0] S v (K_gm_run_22 N  S v p0 p1 s0 s1) (ρpi S) := by
  unfold K_gm_run_22
  refine sim_seg [(.iconst 1, 0, 0, 1)] [] (q := 23) (L' := [some (.ref p0), some (.int p1), none]) (st' := [.int (J 1), .int s1, .ref s0]) (v1 := v) (by decide +kernel) rfl trivial ?_
  refine sim_grd fun h4 => ?_
  refine sc_pi (pc3 := 26) (cf_V (idx := 279) (ci := 6) [.int s1, .int (J 1)] m_gm_fails (by decide) ⟨by decide, by decide⟩ (List.mem_of_getElem? (i := 1827) (by decide +kernel)) rfl (Nat.le_of_ble_eq_true rfl) h4 (by decide +kernel) (Nat.le_of_ble_eq_true rfl) rfl) (ok_gm_fails s0 s1 (J 1) S v) rfl (fun x5 w6 => ?_)
  refine sim_ne0 (o := 29) (tg := 55) (f := 29) (by decide +kernel) rfl rfl (fun _ => ?_) (fun _ => ?_)
  · refine sim_grd fun h7 => ?_
    refine sim_bind fun r8 h9 => ?_
    refine sim_grd fun h10 => ?_
    refine sim_seg [(.aload_n 0, 0, 0, 0), (.aload_n 0, 0, 0, 0), (.getfield 7, 6, 0, 0), (.iconst 0, 0, 0, 0), (.iaload, 0, 0, 0), (.iload_n 1, 0, 0, 0), (.iadd, 0, 0, 0), (.ldc 92, 0, 0, 2000000)] [r8] (q := 40) (L' := [some (.ref p0), some (.int p1), none]) (st' := [.int (J 2000000), .int ((gi w6 r8 0) + p1), .ref p0]) (v1 := w6) (by decide +kernel) rfl ⟨⟨h7, h9⟩, ⟨(Or.inl (kin_alen h10)), (vin_J h10 (by unfold vp_in; decide))⟩, trivial⟩ ?_
    refine sim_le (o := 7) (tg := 47) (f := 43) (by decide +kernel) rfl rfl (fun _ => ?_) (fun _ => ?_)
    · refine sim_seg [(.iconst 1, 0, 0, 1), (.goto 4, 0, 0, 0)] [] (q := 48) (L' := [some (.ref p0), some (.int p1), none]) (st' := [.int (J 1), .ref p0]) (v1 := w6) (by decide +kernel) rfl trivial ?_
      exact sK_gm_run_48 N S w6 p0 p1 p0 (J 1)
    · refine sim_seg [(.iconst 0, 0, 0, 0)] [] (q := 48) (L' := [some (.ref p0), some (.int p1), none]) (st' := [.int (J 0), .ref p0]) (v1 := w6) (by decide +kernel) rfl trivial ?_
      exact sK_gm_run_48 N S w6 p0 p1 p0 (J 0)
  · refine sim_seg [(.iconst 0, 0, 0, 0)] [] (q := 56) (L' := [some (.ref p0), some (.int p1), none]) (st' := [.int (J 0)]) (v1 := w6) (by decide +kernel) rfl trivial ?_
    exact sim_iret (by decide +kernel) rfl rfl rfl
noncomputable def F_gm_run (N : Nat) (a0 : Nat) (b1 : Int32) (S : shp) (v : vl) : Option (Int32 × vl) :=
  grd (kin S a0 = some (0, 6)) <| lt (si v a0 10 (J 0)) fun w2 => (F_gm_inRange b1 (J 1) (J 100000) S w2).bind fun x3 => (if x3 = (J 0) then K_gm_run_22 N  S w2 a0 b1 a0 (J 1) else K_gm_run_22 N  S w2 a0 b1 a0 (J 0))
theorem ok_gm_run (N : Nat) (a0 : Nat) (b1 : Int32) (S : shp) (v : vl) : SimK B_gm_run 0 (entB (bN B_gm_run) [.ref a0, .int b1]) [] S v (F_gm_run N a0 b1 S v) (ρpi S) := by
  show SimK B_gm_run 0 [some (.ref a0), some (.int b1), none] [] S v (F_gm_run N a0 b1 S v) _
  unfold F_gm_run
  refine sim_grd fun h1 => ?_
  refine sim_seg [(.aload_n 0, 0, 0, 0), (.iconst 0, 0, 0, 0), (.putfield 38, 6, 10, 0), (.aload_n 0, 0, 0, 0), (.iload_n 1, 0, 0, 0), (.iconst 1, 0, 0, 1), (.ldc_w 304, 0, 0, 100000)] [] (q := 11) (L' := [some (.ref a0), some (.int b1), none]) (st' := [.int (J 100000), .int (J 1), .int b1, .ref a0]) (v1 := (si v a0 10 (J 0))) (by decide +kernel) rfl ⟨h1, trivial⟩ ?_
  refine sim_lt (x := (si v a0 10 (J 0))) ?_
  generalize (si v a0 10 (J 0)) = w2
  refine sc_ri (pc3 := 14) (cf_S (idx := 41) [.int b1, .int (J 1), .int (J 100000)] m_gm_inRange ⟨by decide, by decide⟩ (List.mem_of_getElem? (i := 1712) (by decide +kernel)) rfl (Nat.le_of_ble_eq_true rfl) (by decide +kernel) (Nat.le_of_ble_eq_true rfl) rfl) (ok_gm_inRange b1 (J 1) (J 100000) S w2) rfl (fun x3 => ?_)
  refine sim_ne0 (o := 7) (tg := 21) (f := 17) (by decide +kernel) rfl rfl (fun _ => ?_) (fun _ => ?_)
  · refine sim_seg [(.iconst 1, 0, 0, 1), (.goto 4, 0, 0, 0)] [] (q := 22) (L' := [some (.ref a0), some (.int b1), none]) (st' := [.int (J 1), .ref a0]) (v1 := w2) (by decide +kernel) rfl trivial ?_
    exact sK_gm_run_22 N S w2 a0 b1 a0 (J 1)
  · refine sim_seg [(.iconst 0, 0, 0, 0)] [] (q := 22) (L' := [some (.ref a0), some (.int b1), none]) (st' := [.int (J 0), .ref a0]) (v1 := w2) (by decide +kernel) rfl trivial ?_
    exact sK_gm_run_22 N S w2 a0 b1 a0 (J 0)
def B_gm_runTo : bd := (⟨"GateCounterModel", "runTo", "(I)I"⟩, prog_8_method_108_code, 3, (some .int), [], 6, 5)
theorem m_gm_runTo : mV B_gm_runTo 6 1 := ⟨⟨⟨by decide +kernel, Or.inl rfl⟩, rfl, (List.mem_of_getElem? (i := 2127) (by decide +kernel)), by decide +kernel, (List.mem_of_getElem? (i := 104) (by decide +kernel)), ⟨by decide, by decide⟩, by decide⟩, rfl, (by unfold nar; decide +kernel), (List.mem_of_getElem? (i := 2125) (by decide +kernel)), rfl, (List.mem_of_getElem? (i := 2126) (by decide +kernel))⟩
noncomputable def K_gm_runTo_26 (N : Nat)  (S : shp) (v : vl) (p0 : Nat) (p1 : Int32) (s0 : Nat) (s1 : Int32) : Option (Int32 × vl) :=
  grd (kin S s0 = some (0, 6)) <| (F_gm_fails s0 s1 (J 1) S v).bind fun (x8, w9) => (if x8 = (J 0) then grd (kin S p0 = some (0, 6)) <| (F_gm_remembers N p0 S w9).bind fun w11 => (gr S p0 0).bind fun r12 => grd (kin S r12 = some (1, 199)) <| (F_gm_goesTo N p0 p1 S w11).bind fun w15 => some ((((gi w15 r12 16) - (gi w11 r12 16)), w15)) else some (((J 0), w9)))
theorem sK_gm_runTo_26 (N : Nat)   (S : shp) (v : vl) (p0 : Nat) (p1 : Int32) (s0 : Nat) (s1 : Int32) : SimK B_gm_runTo 26 [some (.ref p0), some (.int p1), none] [.int s1, .ref s0] S v (K_gm_runTo_26 N  S v p0 p1 s0 s1) (ρpi S) := by
  unfold K_gm_runTo_26
  refine sim_seg [(.iconst 1, 0, 0, 1)] [] (q := 27) (L' := [some (.ref p0), some (.int p1), none]) (st' := [.int (J 1), .int s1, .ref s0]) (v1 := v) (by decide +kernel) rfl trivial ?_
  refine sim_grd fun h7 => ?_
  refine sc_pi (pc3 := 30) (cf_V (idx := 279) (ci := 6) [.int s1, .int (J 1)] m_gm_fails (by decide) ⟨by decide, by decide⟩ (List.mem_of_getElem? (i := 1827) (by decide +kernel)) rfl (Nat.le_of_ble_eq_true rfl) h7 (by decide +kernel) (Nat.le_of_ble_eq_true rfl) rfl) (ok_gm_fails s0 s1 (J 1) S v) rfl (fun x8 w9 => ?_)
  refine sim_eq0 (o := 5) (tg := 35) (f := 33) (by decide +kernel) rfl rfl (fun _ => ?_) (fun _ => ?_)
  · refine sim_seg [(.aload_n 0, 0, 0, 0)] [] (q := 36) (L' := [some (.ref p0), some (.int p1), none]) (st' := [.ref p0]) (v1 := w9) (by decide +kernel) rfl trivial ?_
    refine sim_grd fun h10 => ?_
    refine sc_pv (pc3 := 39) (cf_V (idx := 337) (ci := 6) [] m_gm_remembers (by decide) ⟨by decide, by decide⟩ (List.mem_of_getElem? (i := 2116) (by decide +kernel)) rfl (Nat.le_of_ble_eq_true rfl) h10 (by decide +kernel) (Nat.le_of_ble_eq_true rfl) rfl) (ok_gm_remembers N p0 S w9) rfl (fun w11 => ?_)
    refine sim_bind fun r12 h13 => ?_
    refine sim_grd fun h14 => ?_
    refine sim_seg [(.aload_n 0, 0, 0, 0), (.getfield 7, 6, 0, 0), (.bipush 16, 0, 0, 16), (.iaload, 0, 0, 0), (.istore_n 2, 0, 0, 0)] [r12] (q := 47) (L' := [some (.ref p0), some (.int p1), some (.int (gi w11 r12 16))]) (st' := []) (v1 := w11) (by decide +kernel) rfl ⟨⟨h10, h13⟩, ⟨(Or.inl (kin_alen h14)), (vin_J h14 (by unfold vp_in; decide))⟩, trivial⟩ ?_
    refine sim_seg [(.aload_n 0, 0, 0, 0), (.iload_n 1, 0, 0, 0)] [] (q := 49) (L' := [some (.ref p0), some (.int p1), some (.int (gi w11 r12 16))]) (st' := [.int p1, .ref p0]) (v1 := w11) (by decide +kernel) rfl trivial ?_
    refine sc_pv (pc3 := 52) (cf_V (idx := 298) (ci := 6) [.int p1] m_gm_goesTo (by decide) ⟨by decide, by decide⟩ (List.mem_of_getElem? (i := 1888) (by decide +kernel)) rfl (Nat.le_of_ble_eq_true rfl) h10 (by decide +kernel) (Nat.le_of_ble_eq_true rfl) rfl) (ok_gm_goesTo N p0 p1 S w11) rfl (fun w15 => ?_)
    refine sim_seg [(.aload_n 0, 0, 0, 0), (.getfield 7, 6, 0, 0), (.bipush 16, 0, 0, 16), (.iaload, 0, 0, 0), (.iload_n 2, 0, 0, 0), (.isub, 0, 0, 0)] [r12] (q := 61) (L' := [some (.ref p0), some (.int p1), some (.int (gi w11 r12 16))]) (st' := [.int ((gi w15 r12 16) - (gi w11 r12 16))]) (v1 := w15) (by decide +kernel) rfl ⟨⟨h10, h13⟩, ⟨(Or.inl (kin_alen h14)), (vin_J h14 (by unfold vp_in; decide))⟩, trivial⟩ ?_
    exact sim_iret (by decide +kernel) rfl rfl rfl
  · refine sim_seg [(.iconst 0, 0, 0, 0)] [] (q := 34) (L' := [some (.ref p0), some (.int p1), none]) (st' := [.int (J 0)]) (v1 := w9) (by decide +kernel) rfl trivial ?_
    exact sim_iret (by decide +kernel) rfl rfl rfl
noncomputable def F_gm_runTo (N : Nat) (a0 : Nat) (b1 : Int32) (S : shp) (v : vl) : Option (Int32 × vl) :=
  grd (kin S a0 = some (0, 6)) <| lt (si v a0 10 (J 0)) fun w2 => (gr S a0 0).bind fun r3 => grd (kin S r3 = some (1, 199)) <| (F_gm_inRange b1 (gi w2 r3 0) (J 2000000) S w2).bind fun x6 => (if x6 = (J 0) then K_gm_runTo_26 N  S w2 a0 b1 a0 (J 1) else K_gm_runTo_26 N  S w2 a0 b1 a0 (J 0))
theorem ok_gm_runTo (N : Nat) (a0 : Nat) (b1 : Int32) (S : shp) (v : vl) : SimK B_gm_runTo 0 (entB (bN B_gm_runTo) [.ref a0, .int b1]) [] S v (F_gm_runTo N a0 b1 S v) (ρpi S) := by
  show SimK B_gm_runTo 0 [some (.ref a0), some (.int b1), none] [] S v (F_gm_runTo N a0 b1 S v) _
  unfold F_gm_runTo
  refine sim_grd fun h1 => ?_
  refine sim_seg [(.aload_n 0, 0, 0, 0), (.iconst 0, 0, 0, 0), (.putfield 38, 6, 10, 0), (.aload_n 0, 0, 0, 0), (.iload_n 1, 0, 0, 0), (.aload_n 0, 0, 0, 0)] [] (q := 8) (L' := [some (.ref a0), some (.int b1), none]) (st' := [.ref a0, .int b1, .ref a0]) (v1 := (si v a0 10 (J 0))) (by decide +kernel) rfl ⟨h1, trivial⟩ ?_
  refine sim_lt (x := (si v a0 10 (J 0))) ?_
  generalize (si v a0 10 (J 0)) = w2
  refine sim_bind fun r3 h4 => ?_
  refine sim_grd fun h5 => ?_
  refine sim_seg [(.getfield 7, 6, 0, 0), (.iconst 0, 0, 0, 0), (.iaload, 0, 0, 0), (.ldc 92, 0, 0, 2000000)] [r3] (q := 15) (L' := [some (.ref a0), some (.int b1), none]) (st' := [.int (J 2000000), .int (gi w2 r3 0), .int b1, .ref a0]) (v1 := w2) (by decide +kernel) rfl ⟨⟨h1, h4⟩, ⟨(Or.inl (kin_alen h5)), (vin_J h5 (by unfold vp_in; decide))⟩, trivial⟩ ?_
  refine sc_ri (pc3 := 18) (cf_S (idx := 41) [.int b1, .int (gi w2 r3 0), .int (J 2000000)] m_gm_inRange ⟨by decide, by decide⟩ (List.mem_of_getElem? (i := 1712) (by decide +kernel)) rfl (Nat.le_of_ble_eq_true rfl) (by decide +kernel) (Nat.le_of_ble_eq_true rfl) rfl) (ok_gm_inRange b1 (gi w2 r3 0) (J 2000000) S w2) rfl (fun x6 => ?_)
  refine sim_ne0 (o := 7) (tg := 25) (f := 21) (by decide +kernel) rfl rfl (fun _ => ?_) (fun _ => ?_)
  · refine sim_seg [(.iconst 1, 0, 0, 1), (.goto 4, 0, 0, 0)] [] (q := 26) (L' := [some (.ref a0), some (.int b1), none]) (st' := [.int (J 1), .ref a0]) (v1 := w2) (by decide +kernel) rfl trivial ?_
    exact sK_gm_runTo_26 N S w2 a0 b1 a0 (J 1)
  · refine sim_seg [(.iconst 0, 0, 0, 0)] [] (q := 26) (L' := [some (.ref a0), some (.int b1), none]) (st' := [.int (J 0), .ref a0]) (v1 := w2) (by decide +kernel) rfl trivial ?_
    exact sK_gm_runTo_26 N S w2 a0 b1 a0 (J 0)
def B_gm_refuses : bd := (⟨"GateCounterModel", "refuses", "(II)I"⟩, prog_8_method_109_code, 3, (some .int), [], 6, 0)
theorem m_gm_refuses : mV B_gm_refuses 6 2 := ⟨⟨⟨by decide +kernel, Or.inl rfl⟩, rfl, (List.mem_of_getElem? (i := 2135) (by decide +kernel)), by decide +kernel, (List.mem_of_getElem? (i := 104) (by decide +kernel)), ⟨by decide, by decide⟩, by decide⟩, rfl, (by unfold nar; decide +kernel), (List.mem_of_getElem? (i := 2134) (by decide +kernel)), rfl, (List.mem_of_getElem? (i := 86) (by decide +kernel))⟩
noncomputable def F_gm_refuses (a0 : Nat) (b1 : Int32) (b2 : Int32) (S : shp) (v : vl) : Option (Int32 × vl) :=
  grd (kin S a0 = some (0, 6)) <| lt (si (si v a0 7 b1) a0 8 b2) fun w2 => some (((J (-1)), w2))
theorem ok_gm_refuses (a0 : Nat) (b1 : Int32) (b2 : Int32) (S : shp) (v : vl) : SimK B_gm_refuses 0 (entB (bN B_gm_refuses) [.ref a0, .int b1, .int b2]) [] S v (F_gm_refuses a0 b1 b2 S v) (ρpi S) := by
  show SimK B_gm_refuses 0 [some (.ref a0), some (.int b1), some (.int b2)] [] S v (F_gm_refuses a0 b1 b2 S v) _
  unfold F_gm_refuses
  refine sim_grd fun h1 => ?_
  refine sim_seg [(.aload_n 0, 0, 0, 0), (.iload_n 1, 0, 0, 0), (.putfield 286, 6, 7, 0), (.aload_n 0, 0, 0, 0), (.iload_n 2, 0, 0, 0), (.putfield 289, 6, 8, 0), (.iconst (-1), 0, 0, (-1))] [] (q := 11) (L' := [some (.ref a0), some (.int b1), some (.int b2)]) (st' := [.int (J (-1))]) (v1 := (si (si v a0 7 b1) a0 8 b2)) (by decide +kernel) rfl ⟨h1, h1, trivial⟩ ?_
  refine sim_lt (x := (si (si v a0 7 b1) a0 8 b2)) ?_
  generalize (si (si v a0 7 b1) a0 8 b2) = w2
  exact sim_iret (by decide +kernel) rfl rfl rfl
def B_gm_stays : bd := (⟨"GateCounterModel", "stays", "()V"⟩, prog_8_method_110_code, 1, none, [], 6, 2)
theorem m_gm_stays : mV B_gm_stays 6 0 := ⟨⟨⟨by decide +kernel, Or.inl rfl⟩, rfl, (List.mem_of_getElem? (i := 2139) (by decide +kernel)), by decide +kernel, (List.mem_of_getElem? (i := 104) (by decide +kernel)), ⟨by decide, by decide⟩, by decide⟩, rfl, (by unfold nar; decide +kernel), (List.mem_of_getElem? (i := 2138) (by decide +kernel)), rfl, (List.mem_of_getElem? (i := 87) (by decide +kernel))⟩
noncomputable def F_gm_stays (N : Nat) (a0 : Nat) (S : shp) (v : vl) : Option vl :=
  grd (kin S a0 = some (0, 6)) <| (gr S a0 2).bind fun r2 => (F_gm_keepsPast N a0 r2 S v).bind fun w4 => lt (si (si w4 a0 7 (J 0)) a0 8 (J 0)) fun w5 => some (w5)
theorem ok_gm_stays (N : Nat) (a0 : Nat) (S : shp) (v : vl) : SimK B_gm_stays 0 (entB (bN B_gm_stays) [.ref a0]) [] S v (F_gm_stays N a0 S v) (ρpv S) := by
  show SimK B_gm_stays 0 [some (.ref a0)] [] S v (F_gm_stays N a0 S v) _
  unfold F_gm_stays
  refine sim_grd fun h1 => ?_
  refine sim_bind fun r2 h3 => ?_
  refine sim_seg [(.aload_n 0, 0, 0, 0), (.aload_n 0, 0, 0, 0), (.getfield 16, 6, 2, 0)] [r2] (q := 5) (L' := [some (.ref a0)]) (st' := [.ref r2, .ref a0]) (v1 := v) (by decide +kernel) rfl ⟨⟨h1, h3⟩, trivial⟩ ?_
  refine sc_pv (pc3 := 8) (cf_V (idx := 52) (ci := 6) [.ref r2] m_gm_keepsPast (by decide) ⟨by decide, by decide⟩ (List.mem_of_getElem? (i := 2120) (by decide +kernel)) rfl (Nat.le_of_ble_eq_true rfl) h1 (by decide +kernel) (Nat.le_of_ble_eq_true rfl) rfl) (ok_gm_keepsPast N a0 r2 S v) rfl (fun w4 => ?_)
  refine sim_seg [(.aload_n 0, 0, 0, 0), (.iconst 0, 0, 0, 0), (.putfield 286, 6, 7, 0), (.aload_n 0, 0, 0, 0), (.iconst 0, 0, 0, 0), (.putfield 289, 6, 8, 0)] [] (q := 18) (L' := [some (.ref a0)]) (st' := []) (v1 := (si (si w4 a0 7 (J 0)) a0 8 (J 0))) (by decide +kernel) rfl ⟨h1, h1, trivial⟩ ?_
  refine sim_lt (x := (si (si w4 a0 7 (J 0)) a0 8 (J 0))) ?_
  generalize (si (si w4 a0 7 (J 0)) a0 8 (J 0)) = w5
  exact sim_vret (by decide +kernel) rfl rfl
def B_gm_waitOutput : bd := (⟨"GateCounterModel", "waitOutput", "()I"⟩, prog_8_method_111_code, 2, (some .int), [], 6, 5)
theorem m_gm_waitOutput : mV B_gm_waitOutput 6 0 := ⟨⟨⟨by decide +kernel, Or.inl rfl⟩, rfl, (List.mem_of_getElem? (i := 2131) (by decide +kernel)), by decide +kernel, (List.mem_of_getElem? (i := 104) (by decide +kernel)), ⟨by decide, by decide⟩, by decide⟩, rfl, (by unfold nar; decide +kernel), (List.mem_of_getElem? (i := 2129) (by decide +kernel)), rfl, (List.mem_of_getElem? (i := 2130) (by decide +kernel))⟩
noncomputable def F_gm_waitOutput (N : Nat) (a0 : Nat) (S : shp) (v : vl) : Option (Int32 × vl) :=
  grd (kin S a0 = some (0, 6)) <| lt (si v a0 10 (J 0)) fun w2 => (F_gm_thinks N a0 S w2).bind fun w3 => (F_gm_waitsFor N a0 (J 4) S w3).bind fun (x4, w5) => (if x4 = (J 0) then (F_gm_lateOrSilent a0 S w5).bind fun x6 => (F_gm_back N a0 (J 0) S w5).bind fun (x7, w8) => (F_gm_refuses a0 x6 x7 S w8).bind fun (x9, w10) => some ((x9, w10)) else (F_gm_stays N a0 S w5).bind fun w11 => (gr S a0 0).bind fun r12 => grd (kin S r12 = some (1, 199)) <| some (((gi w11 r12 0), w11)))
theorem ok_gm_waitOutput (N : Nat) (a0 : Nat) (S : shp) (v : vl) : SimK B_gm_waitOutput 0 (entB (bN B_gm_waitOutput) [.ref a0]) [] S v (F_gm_waitOutput N a0 S v) (ρpi S) := by
  show SimK B_gm_waitOutput 0 [some (.ref a0), none] [] S v (F_gm_waitOutput N a0 S v) _
  unfold F_gm_waitOutput
  refine sim_grd fun h1 => ?_
  refine sim_seg [(.aload_n 0, 0, 0, 0), (.iconst 0, 0, 0, 0), (.putfield 38, 6, 10, 0), (.aload_n 0, 0, 0, 0)] [] (q := 6) (L' := [some (.ref a0), none]) (st' := [.ref a0]) (v1 := (si v a0 10 (J 0))) (by decide +kernel) rfl ⟨h1, trivial⟩ ?_
  refine sim_lt (x := (si v a0 10 (J 0))) ?_
  generalize (si v a0 10 (J 0)) = w2
  refine sc_pv (pc3 := 9) (cf_V (idx := 295) (ci := 6) [] m_gm_thinks (by decide) ⟨by decide, by decide⟩ (List.mem_of_getElem? (i := 1884) (by decide +kernel)) rfl (Nat.le_of_ble_eq_true rfl) h1 (by decide +kernel) (Nat.le_of_ble_eq_true rfl) rfl) (ok_gm_thinks N a0 S w2) rfl (fun w3 => ?_)
  refine sim_seg [(.aload_n 0, 0, 0, 0), (.iconst 4, 0, 0, 4)] [] (q := 11) (L' := [some (.ref a0), none]) (st' := [.int (J 4), .ref a0]) (v1 := w3) (by decide +kernel) rfl trivial ?_
  refine sc_pi (pc3 := 14) (cf_V (idx := 108) (ci := 6) [.int (J 4)] m_gm_waitsFor (by decide) ⟨by decide, by decide⟩ (List.mem_of_getElem? (i := 1939) (by decide +kernel)) rfl (Nat.le_of_ble_eq_true rfl) h1 (by decide +kernel) (Nat.le_of_ble_eq_true rfl) rfl) (ok_gm_waitsFor N a0 (J 4) S w3) rfl (fun x4 w5 => ?_)
  refine sim_ne0 (o := 19) (tg := 33) (f := 17) (by decide +kernel) rfl rfl (fun _ => ?_) (fun _ => ?_)
  · refine sim_seg [(.aload_n 0, 0, 0, 0)] [] (q := 18) (L' := [some (.ref a0), none]) (st' := [.ref a0]) (v1 := w5) (by decide +kernel) rfl trivial ?_
    refine sc_ri (pc3 := 21) (cf_V (idx := 118) (ci := 6) [] m_gm_lateOrSilent (by decide) ⟨by decide, by decide⟩ (List.mem_of_getElem? (i := 1992) (by decide +kernel)) rfl (Nat.le_of_ble_eq_true rfl) h1 (by decide +kernel) (Nat.le_of_ble_eq_true rfl) rfl) (ok_gm_lateOrSilent a0 S w5) rfl (fun x6 => ?_)
    refine sim_seg [(.istore_n 1, 0, 0, 0)] [] (q := 22) (L' := [some (.ref a0), some (.int x6)]) (st' := []) (v1 := w5) (by decide +kernel) rfl trivial ?_
    refine sim_seg [(.aload_n 0, 0, 0, 0), (.iload_n 1, 0, 0, 0), (.aload_n 0, 0, 0, 0), (.iconst 0, 0, 0, 0)] [] (q := 26) (L' := [some (.ref a0), some (.int x6)]) (st' := [.int (J 0), .ref a0, .int x6, .ref a0]) (v1 := w5) (by decide +kernel) rfl trivial ?_
    refine sc_pi (pc3 := 29) (cf_V (idx := 301) (ci := 6) [.int (J 0)] m_gm_back (by decide) ⟨by decide, by decide⟩ (List.mem_of_getElem? (i := 1919) (by decide +kernel)) rfl (Nat.le_of_ble_eq_true rfl) h1 (by decide +kernel) (Nat.le_of_ble_eq_true rfl) rfl) (ok_gm_back N a0 (J 0) S w5) rfl (fun x7 w8 => ?_)
    refine sc_pi (pc3 := 32) (cf_V (idx := 340) (ci := 6) [.int x6, .int x7] m_gm_refuses (by decide) ⟨by decide, by decide⟩ (List.mem_of_getElem? (i := 2132) (by decide +kernel)) rfl (Nat.le_of_ble_eq_true rfl) h1 (by decide +kernel) (Nat.le_of_ble_eq_true rfl) rfl) (ok_gm_refuses a0 x6 x7 S w8) rfl (fun x9 w10 => ?_)
    exact sim_iret (by decide +kernel) rfl rfl rfl
  · refine sim_seg [(.aload_n 0, 0, 0, 0)] [] (q := 34) (L' := [some (.ref a0), none]) (st' := [.ref a0]) (v1 := w5) (by decide +kernel) rfl trivial ?_
    refine sc_pv (pc3 := 37) (cf_V (idx := 343) (ci := 6) [] m_gm_stays (by decide) ⟨by decide, by decide⟩ (List.mem_of_getElem? (i := 2136) (by decide +kernel)) rfl (Nat.le_of_ble_eq_true rfl) h1 (by decide +kernel) (Nat.le_of_ble_eq_true rfl) rfl) (ok_gm_stays N a0 S w5) rfl (fun w11 => ?_)
    refine sim_bind fun r12 h13 => ?_
    refine sim_grd fun h14 => ?_
    refine sim_seg [(.aload_n 0, 0, 0, 0), (.getfield 7, 6, 0, 0), (.iconst 0, 0, 0, 0), (.iaload, 0, 0, 0)] [r12] (q := 43) (L' := [some (.ref a0), none]) (st' := [.int (gi w11 r12 0)]) (v1 := w11) (by decide +kernel) rfl ⟨⟨h1, h13⟩, ⟨(Or.inl (kin_alen h14)), (vin_J h14 (by unfold vp_in; decide))⟩, trivial⟩ ?_
    exact sim_iret (by decide +kernel) rfl rfl rfl
def B_gm_keeps : bd := (⟨"GateCounterModel", "keeps", "(Z)I"⟩, prog_8_method_35_code, 3, (some .int), [], 6, 4)
theorem m_gm_keeps : mV B_gm_keeps 6 1 := ⟨⟨⟨by decide +kernel, Or.inl rfl⟩, rfl, (List.mem_of_getElem? (i := 2151) (by decide +kernel)), by decide +kernel, (List.mem_of_getElem? (i := 104) (by decide +kernel)), ⟨by decide, by decide⟩, by decide⟩, rfl, (by unfold nar; decide +kernel), (List.mem_of_getElem? (i := 2150) (by decide +kernel)), rfl, (List.mem_of_getElem? (i := 89) (by decide +kernel))⟩
noncomputable def Y_gm_keeps_49 (N : Nat)  (i49 : vl → Nat → Int32 → Int32 → Option (Int32 × vl)) (S : shp) (v : vl) (p0 : Nat) (p1 : Int32) (p2 : Int32) : Option (Int32 × vl) :=
  (if p2 < (J 8) then grd (kin S p0 = some (0, 6)) <| (gr S p0 0).bind fun r10 => grd (kin S r10 = some (1, 199)) <| (F_gm_at p0 (gi v r10 22) S v).bind fun x13 => (F_gm_told N p0 p1 p2 S v).bind fun x14 => grd (vp_in (x13 + p2) (alen S r10)) <| lt (si v r10 (Int32.toNatClampNeg (x13 + p2)) x14) fun w16 => i49 w16 p0 p1 (p2 + (J 1)) else grd (kin S p0 = some (0, 6)) <| (gr S p0 0).bind fun r18 => grd (kin S r18 = some (1, 199)) <| lt (si v r18 22 ((gi v r18 22) + (J 1))) fun w21 => lt (si w21 r18 21 ((gi w21 r18 21) + (J 1))) fun w22 => (F_gm_of p0 ((gi w22 r18 22) - (J 1)) (J 4) S w22).bind fun x23 => some ((x23, w22)))
noncomputable def K_gm_keeps_49 (N : Nat)  (n : Nat) (S : shp) : vl → Nat → Int32 → Int32 → Option (Int32 × vl) :=
  Nat.rec (motive := fun _ => vl → Nat → Int32 → Int32 → Option (Int32 × vl)) (fun _ _ _ _ => none) (fun _ i => Y_gm_keeps_49 N  i S) n
theorem sY_gm_keeps_49 (N : Nat)  (i49 : vl → Nat → Int32 → Int32 → Option (Int32 × vl)) (S : shp)  (j49 : ∀ (v : vl) (p0 : Nat) (p1 : Int32) (p2 : Int32), SimK B_gm_keeps 49 [some (.ref p0), some (.int p1), some (.int p2)] [] S v (i49 v p0 p1 p2) (ρpi S)) (v : vl) (p0 : Nat) (p1 : Int32) (p2 : Int32) : SimK B_gm_keeps 49 [some (.ref p0), some (.int p1), some (.int p2)] [] S v (Y_gm_keeps_49 N  i49 S v p0 p1 p2) (ρpi S) := by
  unfold Y_gm_keeps_49
  refine sim_seg [(.iload_n 2, 0, 0, 0), (.bipush 8, 0, 0, 8)] [] (q := 52) (L' := [some (.ref p0), some (.int p1), some (.int p2)]) (st' := [.int (J 8), .int p2]) (v1 := v) (by decide +kernel) rfl trivial ?_
  refine sim_ge (o := 33) (tg := 85) (f := 55) (by decide +kernel) rfl rfl (fun _ => ?_) (fun _ => ?_)
  · refine sim_grd fun h9 => ?_
    refine sim_bind fun r10 h11 => ?_
    refine sim_grd fun h12 => ?_
    refine sim_seg [(.aload_n 0, 0, 0, 0), (.getfield 7, 6, 0, 0), (.aload_n 0, 0, 0, 0), (.aload_n 0, 0, 0, 0), (.getfield 7, 6, 0, 0), (.bipush 22, 0, 0, 22), (.iaload, 0, 0, 0)] [r10, r10] (q := 67) (L' := [some (.ref p0), some (.int p1), some (.int p2)]) (st' := [.int (gi v r10 22), .ref p0, .ref r10]) (v1 := v) (by decide +kernel) rfl ⟨⟨h9, h11⟩, ⟨h9, h11⟩, ⟨(Or.inl (kin_alen h12)), (vin_J h12 (by unfold vp_in; decide))⟩, trivial⟩ ?_
    refine sc_ri (pc3 := 70) (cf_V (idx := 148) (ci := 6) [.int (gi v r10 22)] m_gm_at (by decide) ⟨by decide, by decide⟩ (List.mem_of_getElem? (i := 1851) (by decide +kernel)) rfl (Nat.le_of_ble_eq_true rfl) h9 (by decide +kernel) (Nat.le_of_ble_eq_true rfl) rfl) (ok_gm_at p0 (gi v r10 22) S v) rfl (fun x13 => ?_)
    refine sim_seg [(.iload_n 2, 0, 0, 0), (.iadd, 0, 0, 0), (.aload_n 0, 0, 0, 0), (.iload_n 1, 0, 0, 0), (.iload_n 2, 0, 0, 0)] [] (q := 75) (L' := [some (.ref p0), some (.int p1), some (.int p2)]) (st' := [.int p2, .int p1, .ref p0, .int (x13 + p2), .ref r10]) (v1 := v) (by decide +kernel) rfl trivial ?_
    refine sc_ri (pc3 := 78) (cf_V (idx := 151) (ci := 6) [.int p1, .int p2] m_gm_told (by decide) ⟨by decide, by decide⟩ (List.mem_of_getElem? (i := 2008) (by decide +kernel)) rfl (Nat.le_of_ble_eq_true rfl) h9 (by decide +kernel) (Nat.le_of_ble_eq_true rfl) rfl) (ok_gm_told N p0 p1 p2 S v) rfl (fun x14 => ?_)
    refine sim_grd fun h15 => ?_
    refine sim_seg [(.iastore, 0, 0, 0), (.iinc 2 1, 0, 0, 1)] [] (q := 82) (L' := [some (.ref p0), some (.int p1), some (.int (p2 + (J 1)))]) (st' := []) (v1 := (si v r10 (Int32.toNatClampNeg (x13 + p2)) x14)) (by decide +kernel) rfl ⟨⟨(kin_alen h12), h15⟩, trivial⟩ ?_
    refine sim_lt (x := (si v r10 (Int32.toNatClampNeg (x13 + p2)) x14)) ?_
    generalize (si v r10 (Int32.toNatClampNeg (x13 + p2)) x14) = w16
    refine sim_seg [(.goto (-33), 0, 0, 0)] [] (q := 49) (L' := [some (.ref p0), some (.int p1), some (.int (p2 + (J 1)))]) (st' := []) (v1 := w16) (by decide +kernel) rfl trivial ?_
    exact j49 w16 p0 p1 (p2 + (J 1))
  · refine sim_grd fun h17 => ?_
    refine sim_bind fun r18 h19 => ?_
    refine sim_grd fun h20 => ?_
    refine sim_seg [(.aload_n 0, 0, 0, 0), (.getfield 7, 6, 0, 0), (.bipush 22, 0, 0, 22), (.dup2, 0, 0, 0), (.iaload, 0, 0, 0), (.iconst 1, 0, 0, 1), (.iadd, 0, 0, 0), (.iastore, 0, 0, 0), (.aload_n 0, 0, 0, 0)] [r18] (q := 97) (L' := [some (.ref p0), some (.int p1), some (.int p2)]) (st' := [.ref p0]) (v1 := (si v r18 22 ((gi v r18 22) + (J 1)))) (by decide +kernel) rfl ⟨⟨h17, h19⟩, ⟨(Or.inl (kin_alen h20)), (vin_J h20 (by unfold vp_in; decide))⟩, ⟨(kin_alen h20), (vin_J h20 (by unfold vp_in; decide))⟩, trivial⟩ ?_
    refine sim_lt (x := (si v r18 22 ((gi v r18 22) + (J 1)))) ?_
    generalize (si v r18 22 ((gi v r18 22) + (J 1))) = w21
    refine sim_seg [(.getfield 7, 6, 0, 0), (.bipush 21, 0, 0, 21), (.dup2, 0, 0, 0), (.iaload, 0, 0, 0), (.iconst 1, 0, 0, 1), (.iadd, 0, 0, 0), (.iastore, 0, 0, 0), (.aload_n 0, 0, 0, 0), (.aload_n 0, 0, 0, 0)] [r18] (q := 109) (L' := [some (.ref p0), some (.int p1), some (.int p2)]) (st' := [.ref p0, .ref p0]) (v1 := (si w21 r18 21 ((gi w21 r18 21) + (J 1)))) (by decide +kernel) rfl ⟨⟨h17, h19⟩, ⟨(Or.inl (kin_alen h20)), (vin_J h20 (by unfold vp_in; decide))⟩, ⟨(kin_alen h20), (vin_J h20 (by unfold vp_in; decide))⟩, trivial⟩ ?_
    refine sim_lt (x := (si w21 r18 21 ((gi w21 r18 21) + (J 1)))) ?_
    generalize (si w21 r18 21 ((gi w21 r18 21) + (J 1))) = w22
    refine sim_seg [(.getfield 7, 6, 0, 0), (.bipush 22, 0, 0, 22), (.iaload, 0, 0, 0), (.iconst 1, 0, 0, 1), (.isub, 0, 0, 0), (.iconst 4, 0, 0, 4)] [r18] (q := 118) (L' := [some (.ref p0), some (.int p1), some (.int p2)]) (st' := [.int (J 4), .int ((gi w22 r18 22) - (J 1)), .ref p0]) (v1 := w22) (by decide +kernel) rfl ⟨⟨h17, h19⟩, ⟨(Or.inl (kin_alen h20)), (vin_J h20 (by unfold vp_in; decide))⟩, trivial⟩ ?_
    refine sc_ri (pc3 := 121) (cf_V (idx := 155) (ci := 6) [.int ((gi w22 r18 22) - (J 1)), .int (J 4)] m_gm_of (by decide) ⟨by decide, by decide⟩ (List.mem_of_getElem? (i := 1847) (by decide +kernel)) rfl (Nat.le_of_ble_eq_true rfl) h17 (by decide +kernel) (Nat.le_of_ble_eq_true rfl) rfl) (ok_gm_of p0 ((gi w22 r18 22) - (J 1)) (J 4) S w22) rfl (fun x23 => ?_)
    exact sim_iret (by decide +kernel) rfl rfl rfl
theorem sR_gm_keeps_49 (N : Nat)  (S : shp)  (n : Nat) : ∀ (v : vl) (p0 : Nat) (p1 : Int32) (p2 : Int32), SimK B_gm_keeps 49 [some (.ref p0), some (.int p1), some (.int p2)] [] S v (K_gm_keeps_49 N  n S v p0 p1 p2) (ρpi S) := by
  induction n with
  | zero => intro v p0 p1 p2; exact sim_none
  | succ k ih => intro v p0 p1 p2; exact sY_gm_keeps_49 N   _ S  ih v p0 p1 p2
theorem sK_gm_keeps_49 (N : Nat)  (n : Nat) (S : shp) (v : vl) (p0 : Nat) (p1 : Int32) (p2 : Int32) : SimK B_gm_keeps 49 [some (.ref p0), some (.int p1), some (.int p2)] [] S v (K_gm_keeps_49 N  n S v p0 p1 p2) (ρpi S) := sR_gm_keeps_49 N   S  n  v p0 p1 p2
noncomputable def F_gm_keeps (N : Nat) (a0 : Nat) (b1 : Int32) (S : shp) (v : vl) : Option (Int32 × vl) :=
  grd (kin S a0 = some (0, 6)) <| (gr S a0 0).bind fun r2 => grd (kin S r2 = some (1, 199)) <| (if (gi v r2 22) = (J 20) then (F_gm_at a0 (J 1) S v).bind fun x5 => (F_gm_at a0 (J 0) S v).bind fun x6 => (F_gm_copies N r2 x5 r2 x6 (J 152) S v).bind fun w7 => lt (si w7 r2 22 ((gi w7 r2 22) - (J 1))) fun w8 => K_gm_keeps_49 N  N S w8 a0 b1 (J 0) else K_gm_keeps_49 N  N S v a0 b1 (J 0))
theorem ok_gm_keeps (N : Nat) (a0 : Nat) (b1 : Int32) (S : shp) (v : vl) : SimK B_gm_keeps 0 (entB (bN B_gm_keeps) [.ref a0, .int b1]) [] S v (F_gm_keeps N a0 b1 S v) (ρpi S) := by
  show SimK B_gm_keeps 0 [some (.ref a0), some (.int b1), none] [] S v (F_gm_keeps N a0 b1 S v) _
  unfold F_gm_keeps
  refine sim_grd fun h1 => ?_
  refine sim_bind fun r2 h3 => ?_
  refine sim_grd fun h4 => ?_
  refine sim_seg [(.aload_n 0, 0, 0, 0), (.getfield 7, 6, 0, 0), (.bipush 22, 0, 0, 22), (.iaload, 0, 0, 0), (.bipush 20, 0, 0, 20)] [r2] (q := 9) (L' := [some (.ref a0), some (.int b1), none]) (st' := [.int (J 20), .int (gi v r2 22)]) (v1 := v) (by decide +kernel) rfl ⟨⟨h1, h3⟩, ⟨(Or.inl (kin_alen h4)), (vin_J h4 (by unfold vp_in; decide))⟩, trivial⟩ ?_
  refine sim_ne (o := 38) (tg := 47) (f := 12) (by decide +kernel) rfl rfl (fun _ => ?_) (fun _ => ?_)
  · refine sim_seg [(.aload_n 0, 0, 0, 0), (.getfield 7, 6, 0, 0), (.aload_n 0, 0, 0, 0), (.iconst 1, 0, 0, 1)] [r2] (q := 18) (L' := [some (.ref a0), some (.int b1), none]) (st' := [.int (J 1), .ref a0, .ref r2]) (v1 := v) (by decide +kernel) rfl ⟨⟨h1, h3⟩, trivial⟩ ?_
    refine sc_ri (pc3 := 21) (cf_V (idx := 148) (ci := 6) [.int (J 1)] m_gm_at (by decide) ⟨by decide, by decide⟩ (List.mem_of_getElem? (i := 1851) (by decide +kernel)) rfl (Nat.le_of_ble_eq_true rfl) h1 (by decide +kernel) (Nat.le_of_ble_eq_true rfl) rfl) (ok_gm_at a0 (J 1) S v) rfl (fun x5 => ?_)
    refine sim_seg [(.aload_n 0, 0, 0, 0), (.getfield 7, 6, 0, 0), (.aload_n 0, 0, 0, 0), (.iconst 0, 0, 0, 0)] [r2] (q := 27) (L' := [some (.ref a0), some (.int b1), none]) (st' := [.int (J 0), .ref a0, .ref r2, .int x5, .ref r2]) (v1 := v) (by decide +kernel) rfl ⟨⟨h1, h3⟩, trivial⟩ ?_
    refine sc_ri (pc3 := 30) (cf_V (idx := 148) (ci := 6) [.int (J 0)] m_gm_at (by decide) ⟨by decide, by decide⟩ (List.mem_of_getElem? (i := 1851) (by decide +kernel)) rfl (Nat.le_of_ble_eq_true rfl) h1 (by decide +kernel) (Nat.le_of_ble_eq_true rfl) rfl) (ok_gm_at a0 (J 0) S v) rfl (fun x6 => ?_)
    refine sim_seg [(.sipush 152, 0, 0, 152)] [] (q := 33) (L' := [some (.ref a0), some (.int b1), none]) (st' := [.int (J 152), .int x6, .ref r2, .int x5, .ref r2]) (v1 := v) (by decide +kernel) rfl trivial ?_
    refine sc_pv (pc3 := 36) (cf_S (idx := 48) [.ref r2, .int x5, .ref r2, .int x6, .int (J 152)] m_gm_copies ⟨by decide, by decide⟩ (List.mem_of_getElem? (i := 1719) (by decide +kernel)) rfl (Nat.le_of_ble_eq_true rfl) (by decide +kernel) (Nat.le_of_ble_eq_true rfl) rfl) (ok_gm_copies N r2 x5 r2 x6 (J 152) S v) rfl (fun w7 => ?_)
    refine sim_seg [(.aload_n 0, 0, 0, 0), (.getfield 7, 6, 0, 0), (.bipush 22, 0, 0, 22), (.dup2, 0, 0, 0), (.iaload, 0, 0, 0), (.iconst 1, 0, 0, 1), (.isub, 0, 0, 0), (.iastore, 0, 0, 0), (.iconst 0, 0, 0, 0), (.istore_n 2, 0, 0, 0)] [r2] (q := 49) (L' := [some (.ref a0), some (.int b1), some (.int (J 0))]) (st' := []) (v1 := (si w7 r2 22 ((gi w7 r2 22) - (J 1)))) (by decide +kernel) rfl ⟨⟨h1, h3⟩, ⟨(Or.inl (kin_alen h4)), (vin_J h4 (by unfold vp_in; decide))⟩, ⟨(kin_alen h4), (vin_J h4 (by unfold vp_in; decide))⟩, trivial⟩ ?_
    refine sim_lt (x := (si w7 r2 22 ((gi w7 r2 22) - (J 1)))) ?_
    generalize (si w7 r2 22 ((gi w7 r2 22) - (J 1))) = w8
    exact sK_gm_keeps_49 N N S w8 a0 b1 (J 0)
  · refine sim_seg [(.iconst 0, 0, 0, 0), (.istore_n 2, 0, 0, 0)] [] (q := 49) (L' := [some (.ref a0), some (.int b1), some (.int (J 0))]) (st' := []) (v1 := v) (by decide +kernel) rfl trivial ?_
    exact sK_gm_keeps_49 N N S v a0 b1 (J 0)
def B_gm_makes : bd := (⟨"GateCounterModel", "makes", "(Z)I"⟩, prog_8_method_112_code, 3, (some .int), [], 6, 7)
theorem m_gm_makes : mV B_gm_makes 6 1 := ⟨⟨⟨by decide +kernel, Or.inl rfl⟩, rfl, (List.mem_of_getElem? (i := 2147) (by decide +kernel)), by decide +kernel, (List.mem_of_getElem? (i := 104) (by decide +kernel)), ⟨by decide, by decide⟩, by decide⟩, rfl, (by unfold nar; decide +kernel), (List.mem_of_getElem? (i := 2146) (by decide +kernel)), rfl, (List.mem_of_getElem? (i := 88) (by decide +kernel))⟩
noncomputable def F_gm_makes (N : Nat) (a0 : Nat) (b1 : Int32) (S : shp) (v : vl) : Option (Int32 × vl) :=
  grd (kin S a0 = some (0, 6)) <| (F_gm_thinks N a0 S v).bind fun w2 => (F_gm_measures N a0 b1 S w2).bind fun (x3, w4) => (if x3 = (J 0) then (F_gm_stays N a0 S w4).bind fun w5 => (F_gm_keeps N a0 b1 S w5).bind fun (x6, w7) => some ((x6, w7)) else (F_gm_back N a0 (J 0) S w4).bind fun (x8, w9) => (F_gm_refuses a0 x3 x8 S w9).bind fun (x10, w11) => some ((x10, w11)))
theorem ok_gm_makes (N : Nat) (a0 : Nat) (b1 : Int32) (S : shp) (v : vl) : SimK B_gm_makes 0 (entB (bN B_gm_makes) [.ref a0, .int b1]) [] S v (F_gm_makes N a0 b1 S v) (ρpi S) := by
  show SimK B_gm_makes 0 [some (.ref a0), some (.int b1), none] [] S v (F_gm_makes N a0 b1 S v) _
  unfold F_gm_makes
  refine sim_seg [(.aload_n 0, 0, 0, 0)] [] (q := 1) (L' := [some (.ref a0), some (.int b1), none]) (st' := [.ref a0]) (v1 := v) (by decide +kernel) rfl trivial ?_
  refine sim_grd fun h1 => ?_
  refine sc_pv (pc3 := 4) (cf_V (idx := 295) (ci := 6) [] m_gm_thinks (by decide) ⟨by decide, by decide⟩ (List.mem_of_getElem? (i := 1884) (by decide +kernel)) rfl (Nat.le_of_ble_eq_true rfl) h1 (by decide +kernel) (Nat.le_of_ble_eq_true rfl) rfl) (ok_gm_thinks N a0 S v) rfl (fun w2 => ?_)
  refine sim_seg [(.aload_n 0, 0, 0, 0), (.iload_n 1, 0, 0, 0)] [] (q := 6) (L' := [some (.ref a0), some (.int b1), none]) (st' := [.int b1, .ref a0]) (v1 := w2) (by decide +kernel) rfl trivial ?_
  refine sc_pi (pc3 := 9) (cf_V (idx := 320) (ci := 6) [.int b1] m_gm_measures (by decide) ⟨by decide, by decide⟩ (List.mem_of_getElem? (i := 1984) (by decide +kernel)) rfl (Nat.le_of_ble_eq_true rfl) h1 (by decide +kernel) (Nat.le_of_ble_eq_true rfl) rfl) (ok_gm_measures N a0 b1 S w2) rfl (fun x3 w4 => ?_)
  refine sim_seg [(.istore_n 2, 0, 0, 0)] [] (q := 10) (L' := [some (.ref a0), some (.int b1), some (.int x3)]) (st' := []) (v1 := w4) (by decide +kernel) rfl trivial ?_
  refine sim_seg [(.iload_n 2, 0, 0, 0)] [] (q := 11) (L' := [some (.ref a0), some (.int b1), some (.int x3)]) (st' := [.int x3]) (v1 := w4) (by decide +kernel) rfl trivial ?_
  refine sim_eq0 (o := 14) (tg := 25) (f := 14) (by decide +kernel) rfl rfl (fun _ => ?_) (fun _ => ?_)
  · refine sim_seg [(.aload_n 0, 0, 0, 0)] [] (q := 26) (L' := [some (.ref a0), some (.int b1), some (.int x3)]) (st' := [.ref a0]) (v1 := w4) (by decide +kernel) rfl trivial ?_
    refine sc_pv (pc3 := 29) (cf_V (idx := 343) (ci := 6) [] m_gm_stays (by decide) ⟨by decide, by decide⟩ (List.mem_of_getElem? (i := 2136) (by decide +kernel)) rfl (Nat.le_of_ble_eq_true rfl) h1 (by decide +kernel) (Nat.le_of_ble_eq_true rfl) rfl) (ok_gm_stays N a0 S w4) rfl (fun w5 => ?_)
    refine sim_seg [(.aload_n 0, 0, 0, 0), (.iload_n 1, 0, 0, 0)] [] (q := 31) (L' := [some (.ref a0), some (.int b1), some (.int x3)]) (st' := [.int b1, .ref a0]) (v1 := w5) (by decide +kernel) rfl trivial ?_
    refine sc_pi (pc3 := 34) (cf_V (idx := 346) (ci := 6) [.int b1] m_gm_keeps (by decide) ⟨by decide, by decide⟩ (List.mem_of_getElem? (i := 2148) (by decide +kernel)) rfl (Nat.le_of_ble_eq_true rfl) h1 (by decide +kernel) (Nat.le_of_ble_eq_true rfl) rfl) (ok_gm_keeps N a0 b1 S w5) rfl (fun x6 w7 => ?_)
    exact sim_iret (by decide +kernel) rfl rfl rfl
  · refine sim_seg [(.aload_n 0, 0, 0, 0), (.iload_n 2, 0, 0, 0), (.aload_n 0, 0, 0, 0), (.iconst 0, 0, 0, 0)] [] (q := 18) (L' := [some (.ref a0), some (.int b1), some (.int x3)]) (st' := [.int (J 0), .ref a0, .int x3, .ref a0]) (v1 := w4) (by decide +kernel) rfl trivial ?_
    refine sc_pi (pc3 := 21) (cf_V (idx := 301) (ci := 6) [.int (J 0)] m_gm_back (by decide) ⟨by decide, by decide⟩ (List.mem_of_getElem? (i := 1919) (by decide +kernel)) rfl (Nat.le_of_ble_eq_true rfl) h1 (by decide +kernel) (Nat.le_of_ble_eq_true rfl) rfl) (ok_gm_back N a0 (J 0) S w4) rfl (fun x8 w9 => ?_)
    refine sc_pi (pc3 := 24) (cf_V (idx := 340) (ci := 6) [.int x3, .int x8] m_gm_refuses (by decide) ⟨by decide, by decide⟩ (List.mem_of_getElem? (i := 2132) (by decide +kernel)) rfl (Nat.le_of_ble_eq_true rfl) h1 (by decide +kernel) (Nat.le_of_ble_eq_true rfl) rfl) (ok_gm_refuses a0 x3 x8 S w9) rfl (fun x10 w11 => ?_)
    exact sim_iret (by decide +kernel) rfl rfl rfl
def B_gm_gate : bd := (⟨"GateCounterModel", "gate", "()I"⟩, prog_8_method_113_code, 1, (some .int), [], 6, 8)
theorem m_gm_gate : mV B_gm_gate 6 0 := ⟨⟨⟨by decide +kernel, Or.inl rfl⟩, rfl, (List.mem_of_getElem? (i := 2143) (by decide +kernel)), by decide +kernel, (List.mem_of_getElem? (i := 104) (by decide +kernel)), ⟨by decide, by decide⟩, by decide⟩, rfl, (by unfold nar; decide +kernel), (List.mem_of_getElem? (i := 2141) (by decide +kernel)), rfl, (List.mem_of_getElem? (i := 2142) (by decide +kernel))⟩
noncomputable def F_gm_gate (N : Nat) (a0 : Nat) (S : shp) (v : vl) : Option (Int32 × vl) :=
  grd (kin S a0 = some (0, 6)) <| lt (si v a0 10 (J 0)) fun w2 => (F_gm_makes N a0 (J 0) S w2).bind fun (x3, w4) => some ((x3, w4))
theorem ok_gm_gate (N : Nat) (a0 : Nat) (S : shp) (v : vl) : SimK B_gm_gate 0 (entB (bN B_gm_gate) [.ref a0]) [] S v (F_gm_gate N a0 S v) (ρpi S) := by
  show SimK B_gm_gate 0 [some (.ref a0)] [] S v (F_gm_gate N a0 S v) _
  unfold F_gm_gate
  refine sim_grd fun h1 => ?_
  refine sim_seg [(.aload_n 0, 0, 0, 0), (.iconst 0, 0, 0, 0), (.putfield 38, 6, 10, 0), (.aload_n 0, 0, 0, 0), (.iconst 0, 0, 0, 0)] [] (q := 7) (L' := [some (.ref a0)]) (st' := [.int (J 0), .ref a0]) (v1 := (si v a0 10 (J 0))) (by decide +kernel) rfl ⟨h1, trivial⟩ ?_
  refine sim_lt (x := (si v a0 10 (J 0))) ?_
  generalize (si v a0 10 (J 0)) = w2
  refine sc_pi (pc3 := 10) (cf_V (idx := 349) (ci := 6) [.int (J 0)] m_gm_makes (by decide) ⟨by decide, by decide⟩ (List.mem_of_getElem? (i := 2144) (by decide +kernel)) rfl (Nat.le_of_ble_eq_true rfl) h1 (by decide +kernel) (Nat.le_of_ble_eq_true rfl) rfl) (ok_gm_makes N a0 (J 0) S w2) rfl (fun x3 w4 => ?_)
  exact sim_iret (by decide +kernel) rfl rfl rfl
def B_gm_period : bd := (⟨"GateCounterModel", "period", "()I"⟩, prog_8_method_114_code, 1, (some .int), [], 6, 8)
theorem m_gm_period : mV B_gm_period 6 0 := ⟨⟨⟨by decide +kernel, Or.inl rfl⟩, rfl, (List.mem_of_getElem? (i := 2155) (by decide +kernel)), by decide +kernel, (List.mem_of_getElem? (i := 104) (by decide +kernel)), ⟨by decide, by decide⟩, by decide⟩, rfl, (by unfold nar; decide +kernel), (List.mem_of_getElem? (i := 2153) (by decide +kernel)), rfl, (List.mem_of_getElem? (i := 2154) (by decide +kernel))⟩
noncomputable def F_gm_period (N : Nat) (a0 : Nat) (S : shp) (v : vl) : Option (Int32 × vl) :=
  grd (kin S a0 = some (0, 6)) <| lt (si v a0 10 (J 0)) fun w2 => (F_gm_makes N a0 (J 1) S w2).bind fun (x3, w4) => some ((x3, w4))
theorem ok_gm_period (N : Nat) (a0 : Nat) (S : shp) (v : vl) : SimK B_gm_period 0 (entB (bN B_gm_period) [.ref a0]) [] S v (F_gm_period N a0 S v) (ρpi S) := by
  show SimK B_gm_period 0 [some (.ref a0)] [] S v (F_gm_period N a0 S v) _
  unfold F_gm_period
  refine sim_grd fun h1 => ?_
  refine sim_seg [(.aload_n 0, 0, 0, 0), (.iconst 0, 0, 0, 0), (.putfield 38, 6, 10, 0), (.aload_n 0, 0, 0, 0), (.iconst 1, 0, 0, 1)] [] (q := 7) (L' := [some (.ref a0)]) (st' := [.int (J 1), .ref a0]) (v1 := (si v a0 10 (J 0))) (by decide +kernel) rfl ⟨h1, trivial⟩ ?_
  refine sim_lt (x := (si v a0 10 (J 0))) ?_
  generalize (si v a0 10 (J 0)) = w2
  refine sc_pi (pc3 := 10) (cf_V (idx := 349) (ci := 6) [.int (J 1)] m_gm_makes (by decide) ⟨by decide, by decide⟩ (List.mem_of_getElem? (i := 2144) (by decide +kernel)) rfl (Nat.le_of_ble_eq_true rfl) h1 (by decide +kernel) (Nat.le_of_ble_eq_true rfl) rfl) (ok_gm_makes N a0 (J 1) S w2) rfl (fun x3 w4 => ?_)
  exact sim_iret (by decide +kernel) rfl rfl rfl
def B_gm_chooses : bd := (⟨"GateCounterModel", "chooses", "(IZ)I"⟩, prog_8_method_115_code, 3, (some .int), [], 6, 8)
theorem m_gm_chooses : mV B_gm_chooses 6 2 := ⟨⟨⟨by decide +kernel, Or.inl rfl⟩, rfl, (List.mem_of_getElem? (i := 2163) (by decide +kernel)), by decide +kernel, (List.mem_of_getElem? (i := 104) (by decide +kernel)), ⟨by decide, by decide⟩, by decide⟩, rfl, (by unfold nar; decide +kernel), (List.mem_of_getElem? (i := 2162) (by decide +kernel)), rfl, (List.mem_of_getElem? (i := 90) (by decide +kernel))⟩
noncomputable def F_gm_chooses (N : Nat) (a0 : Nat) (b1 : Int32) (b2 : Int32) (S : shp) (v : vl) : Option (Int32 × vl) :=
  grd (kin S a0 = some (0, 6)) <| lt (si v a0 9 b1) fun w2 => (F_gm_makes N a0 b2 S w2).bind fun (x3, w4) => some ((x3, w4))
theorem ok_gm_chooses (N : Nat) (a0 : Nat) (b1 : Int32) (b2 : Int32) (S : shp) (v : vl) : SimK B_gm_chooses 0 (entB (bN B_gm_chooses) [.ref a0, .int b1, .int b2]) [] S v (F_gm_chooses N a0 b1 b2 S v) (ρpi S) := by
  show SimK B_gm_chooses 0 [some (.ref a0), some (.int b1), some (.int b2)] [] S v (F_gm_chooses N a0 b1 b2 S v) _
  unfold F_gm_chooses
  refine sim_grd fun h1 => ?_
  refine sim_seg [(.aload_n 0, 0, 0, 0), (.iload_n 1, 0, 0, 0), (.putfield 292, 6, 9, 0), (.aload_n 0, 0, 0, 0), (.iload_n 2, 0, 0, 0)] [] (q := 7) (L' := [some (.ref a0), some (.int b1), some (.int b2)]) (st' := [.int b2, .ref a0]) (v1 := (si v a0 9 b1)) (by decide +kernel) rfl ⟨h1, trivial⟩ ?_
  refine sim_lt (x := (si v a0 9 b1)) ?_
  generalize (si v a0 9 b1) = w2
  refine sc_pi (pc3 := 10) (cf_V (idx := 349) (ci := 6) [.int b2] m_gm_makes (by decide) ⟨by decide, by decide⟩ (List.mem_of_getElem? (i := 2144) (by decide +kernel)) rfl (Nat.le_of_ble_eq_true rfl) h1 (by decide +kernel) (Nat.le_of_ble_eq_true rfl) rfl) (ok_gm_makes N a0 b2 S w2) rfl (fun x3 w4 => ?_)
  exact sim_iret (by decide +kernel) rfl rfl rfl
def B_gm_choose : bd := (⟨"GateCounterModel", "choose", "()I"⟩, prog_8_method_116_code, 5, (some .int), [], 6, 9)
theorem m_gm_choose : mV B_gm_choose 6 0 := ⟨⟨⟨by decide +kernel, Or.inl rfl⟩, rfl, (List.mem_of_getElem? (i := 2159) (by decide +kernel)), by decide +kernel, (List.mem_of_getElem? (i := 104) (by decide +kernel)), ⟨by decide, by decide⟩, by decide⟩, rfl, (by unfold nar; decide +kernel), (List.mem_of_getElem? (i := 2157) (by decide +kernel)), rfl, (List.mem_of_getElem? (i := 2158) (by decide +kernel))⟩
noncomputable def K_gm_choose_58 (N : Nat)  (S : shp) (v : vl) (p0 : Nat) (p1 : Int32) (p2 : Int32) (p3 : Int32) (p4 : Int32) : Option (Int32 × vl) :=
  (if p3 = (J 0) then (if p1 = (J 0) then (if p2 = p4 then grd (kin S p0 = some (0, 6)) <| (F_gm_chooses N p0 (J 3) (J 0) S v).bind fun (x13, w14) => some ((x13, w14)) else (if p4 < p2 then grd (kin S p0 = some (0, 6)) <| (F_gm_chooses N p0 (J 1) (J 0) S v).bind fun (x16, w17) => some ((x16, w17)) else grd (kin S p0 = some (0, 6)) <| (F_gm_chooses N p0 (J 2) (J 1) S v).bind fun (x19, w20) => some ((x19, w20)))) else grd (kin S p0 = some (0, 6)) <| (F_gm_chooses N p0 (J 5) (J 1) S v).bind fun (x22, w23) => some ((x22, w23))) else grd (kin S p0 = some (0, 6)) <| (F_gm_chooses N p0 (J 4) (J 0) S v).bind fun (x25, w26) => some ((x25, w26)))
theorem sK_gm_choose_58 (N : Nat)   (S : shp) (v : vl) (p0 : Nat) (p1 : Int32) (p2 : Int32) (p3 : Int32) (p4 : Int32) : SimK B_gm_choose 58 [some (.ref p0), some (.int p1), some (.int p2), some (.int p3), some (.int p4)] [] S v (K_gm_choose_58 N  S v p0 p1 p2 p3 p4) (ρpi S) := by
  unfold K_gm_choose_58
  refine sim_seg [(.iload_n 3, 0, 0, 0)] [] (q := 59) (L' := [some (.ref p0), some (.int p1), some (.int p2), some (.int p3), some (.int p4)]) (st' := [.int p3]) (v1 := v) (by decide +kernel) rfl trivial ?_
  refine sim_eq0 (o := 10) (tg := 69) (f := 62) (by decide +kernel) rfl rfl (fun _ => ?_) (fun _ => ?_)
  · refine sim_seg [(.iload_n 1, 0, 0, 0)] [] (q := 70) (L' := [some (.ref p0), some (.int p1), some (.int p2), some (.int p3), some (.int p4)]) (st' := [.int p1]) (v1 := v) (by decide +kernel) rfl trivial ?_
    refine sim_eq0 (o := 10) (tg := 80) (f := 73) (by decide +kernel) rfl rfl (fun _ => ?_) (fun _ => ?_)
    · refine sim_seg [(.iload_n 2, 0, 0, 0), (.iload 4, 0, 0, 0)] [] (q := 83) (L' := [some (.ref p0), some (.int p1), some (.int p2), some (.int p3), some (.int p4)]) (st' := [.int p4, .int p2]) (v1 := v) (by decide +kernel) rfl trivial ?_
      refine sim_ne (o := 10) (tg := 93) (f := 86) (by decide +kernel) rfl rfl (fun _ => ?_) (fun _ => ?_)
      · refine sim_seg [(.aload_n 0, 0, 0, 0), (.iconst 3, 0, 0, 3), (.iconst 0, 0, 0, 0)] [] (q := 89) (L' := [some (.ref p0), some (.int p1), some (.int p2), some (.int p3), some (.int p4)]) (st' := [.int (J 0), .int (J 3), .ref p0]) (v1 := v) (by decide +kernel) rfl trivial ?_
        refine sim_grd fun h12 => ?_
        refine sc_pi (pc3 := 92) (cf_V (idx := 352) (ci := 6) [.int (J 3), .int (J 0)] m_gm_chooses (by decide) ⟨by decide, by decide⟩ (List.mem_of_getElem? (i := 2160) (by decide +kernel)) rfl (Nat.le_of_ble_eq_true rfl) h12 (by decide +kernel) (Nat.le_of_ble_eq_true rfl) rfl) (ok_gm_chooses N p0 (J 3) (J 0) S v) rfl (fun x13 w14 => ?_)
        exact sim_iret (by decide +kernel) rfl rfl rfl
      · refine sim_seg [(.iload_n 2, 0, 0, 0), (.iload 4, 0, 0, 0)] [] (q := 96) (L' := [some (.ref p0), some (.int p1), some (.int p2), some (.int p3), some (.int p4)]) (st' := [.int p4, .int p2]) (v1 := v) (by decide +kernel) rfl trivial ?_
        refine sim_le (o := 12) (tg := 108) (f := 99) (by decide +kernel) rfl rfl (fun _ => ?_) (fun _ => ?_)
        · refine sim_seg [(.aload_n 0, 0, 0, 0), (.iconst 1, 0, 0, 1), (.iconst 0, 0, 0, 0)] [] (q := 102) (L' := [some (.ref p0), some (.int p1), some (.int p2), some (.int p3), some (.int p4)]) (st' := [.int (J 0), .int (J 1), .ref p0]) (v1 := v) (by decide +kernel) rfl trivial ?_
          refine sim_grd fun h15 => ?_
          refine sc_pi (pc3 := 105) (cf_V (idx := 352) (ci := 6) [.int (J 1), .int (J 0)] m_gm_chooses (by decide) ⟨by decide, by decide⟩ (List.mem_of_getElem? (i := 2160) (by decide +kernel)) rfl (Nat.le_of_ble_eq_true rfl) h15 (by decide +kernel) (Nat.le_of_ble_eq_true rfl) rfl) (ok_gm_chooses N p0 (J 1) (J 0) S v) rfl (fun x16 w17 => ?_)
          refine sim_seg [(.goto 9, 0, 0, 0)] [] (q := 114) (L' := [some (.ref p0), some (.int p1), some (.int p2), some (.int p3), some (.int p4)]) (st' := [.int x16]) (v1 := w17) (by decide +kernel) rfl trivial ?_
          exact sim_iret (by decide +kernel) rfl rfl rfl
        · refine sim_seg [(.aload_n 0, 0, 0, 0), (.iconst 2, 0, 0, 2), (.iconst 1, 0, 0, 1)] [] (q := 111) (L' := [some (.ref p0), some (.int p1), some (.int p2), some (.int p3), some (.int p4)]) (st' := [.int (J 1), .int (J 2), .ref p0]) (v1 := v) (by decide +kernel) rfl trivial ?_
          refine sim_grd fun h18 => ?_
          refine sc_pi (pc3 := 114) (cf_V (idx := 352) (ci := 6) [.int (J 2), .int (J 1)] m_gm_chooses (by decide) ⟨by decide, by decide⟩ (List.mem_of_getElem? (i := 2160) (by decide +kernel)) rfl (Nat.le_of_ble_eq_true rfl) h18 (by decide +kernel) (Nat.le_of_ble_eq_true rfl) rfl) (ok_gm_chooses N p0 (J 2) (J 1) S v) rfl (fun x19 w20 => ?_)
          exact sim_iret (by decide +kernel) rfl rfl rfl
    · refine sim_seg [(.aload_n 0, 0, 0, 0), (.iconst 5, 0, 0, 5), (.iconst 1, 0, 0, 1)] [] (q := 76) (L' := [some (.ref p0), some (.int p1), some (.int p2), some (.int p3), some (.int p4)]) (st' := [.int (J 1), .int (J 5), .ref p0]) (v1 := v) (by decide +kernel) rfl trivial ?_
      refine sim_grd fun h21 => ?_
      refine sc_pi (pc3 := 79) (cf_V (idx := 352) (ci := 6) [.int (J 5), .int (J 1)] m_gm_chooses (by decide) ⟨by decide, by decide⟩ (List.mem_of_getElem? (i := 2160) (by decide +kernel)) rfl (Nat.le_of_ble_eq_true rfl) h21 (by decide +kernel) (Nat.le_of_ble_eq_true rfl) rfl) (ok_gm_chooses N p0 (J 5) (J 1) S v) rfl (fun x22 w23 => ?_)
      exact sim_iret (by decide +kernel) rfl rfl rfl
  · refine sim_seg [(.aload_n 0, 0, 0, 0), (.iconst 4, 0, 0, 4), (.iconst 0, 0, 0, 0)] [] (q := 65) (L' := [some (.ref p0), some (.int p1), some (.int p2), some (.int p3), some (.int p4)]) (st' := [.int (J 0), .int (J 4), .ref p0]) (v1 := v) (by decide +kernel) rfl trivial ?_
    refine sim_grd fun h24 => ?_
    refine sc_pi (pc3 := 68) (cf_V (idx := 352) (ci := 6) [.int (J 4), .int (J 0)] m_gm_chooses (by decide) ⟨by decide, by decide⟩ (List.mem_of_getElem? (i := 2160) (by decide +kernel)) rfl (Nat.le_of_ble_eq_true rfl) h24 (by decide +kernel) (Nat.le_of_ble_eq_true rfl) rfl) (ok_gm_chooses N p0 (J 4) (J 0) S v) rfl (fun x25 w26 => ?_)
    exact sim_iret (by decide +kernel) rfl rfl rfl
noncomputable def F_gm_choose (N : Nat) (a0 : Nat) (S : shp) (v : vl) : Option (Int32 × vl) :=
  grd (kin S a0 = some (0, 6)) <| lt (si v a0 10 (J 0)) fun w2 => (F_gm_thinks N a0 S w2).bind fun w3 => (F_gm_measuresGate N a0 S w3).bind fun (x4, w5) => (F_gm_back N a0 x4 S w5).bind fun (x6, w7) => (F_gm_measuresPeriod N a0 S w7).bind fun (x8, w9) => (F_gm_back N a0 x8 S w9).bind fun (x10, w11) => (if x6 = (J 0) then K_gm_choose_58 N  S w11 a0 x6 (gi w7 a0 13) x10 (gi w11 a0 13) else (if x10 = (J 0) then K_gm_choose_58 N  S w11 a0 x6 (gi w7 a0 13) x10 (gi w11 a0 13) else lt (si w11 a0 9 (J 0)) fun w27 => (F_gm_refuses a0 x6 x10 S w27).bind fun (x28, w29) => some ((x28, w29))))
theorem ok_gm_choose (N : Nat) (a0 : Nat) (S : shp) (v : vl) : SimK B_gm_choose 0 (entB (bN B_gm_choose) [.ref a0]) [] S v (F_gm_choose N a0 S v) (ρpi S) := by
  show SimK B_gm_choose 0 [some (.ref a0), none, none, none, none] [] S v (F_gm_choose N a0 S v) _
  unfold F_gm_choose
  refine sim_grd fun h1 => ?_
  refine sim_seg [(.aload_n 0, 0, 0, 0), (.iconst 0, 0, 0, 0), (.putfield 38, 6, 10, 0), (.aload_n 0, 0, 0, 0)] [] (q := 6) (L' := [some (.ref a0), none, none, none, none]) (st' := [.ref a0]) (v1 := (si v a0 10 (J 0))) (by decide +kernel) rfl ⟨h1, trivial⟩ ?_
  refine sim_lt (x := (si v a0 10 (J 0))) ?_
  generalize (si v a0 10 (J 0)) = w2
  refine sc_pv (pc3 := 9) (cf_V (idx := 295) (ci := 6) [] m_gm_thinks (by decide) ⟨by decide, by decide⟩ (List.mem_of_getElem? (i := 1884) (by decide +kernel)) rfl (Nat.le_of_ble_eq_true rfl) h1 (by decide +kernel) (Nat.le_of_ble_eq_true rfl) rfl) (ok_gm_thinks N a0 S w2) rfl (fun w3 => ?_)
  refine sim_seg [(.aload_n 0, 0, 0, 0), (.aload_n 0, 0, 0, 0)] [] (q := 11) (L' := [some (.ref a0), none, none, none, none]) (st' := [.ref a0, .ref a0]) (v1 := w3) (by decide +kernel) rfl trivial ?_
  refine sc_pi (pc3 := 14) (cf_V (idx := 125) (ci := 6) [] m_gm_measuresGate (by decide) ⟨by decide, by decide⟩ (List.mem_of_getElem? (i := 2004) (by decide +kernel)) rfl (Nat.le_of_ble_eq_true rfl) h1 (by decide +kernel) (Nat.le_of_ble_eq_true rfl) rfl) (ok_gm_measuresGate N a0 S w3) rfl (fun x4 w5 => ?_)
  refine sc_pi (pc3 := 17) (cf_V (idx := 301) (ci := 6) [.int x4] m_gm_back (by decide) ⟨by decide, by decide⟩ (List.mem_of_getElem? (i := 1919) (by decide +kernel)) rfl (Nat.le_of_ble_eq_true rfl) h1 (by decide +kernel) (Nat.le_of_ble_eq_true rfl) rfl) (ok_gm_back N a0 x4 S w5) rfl (fun x6 w7 => ?_)
  refine sim_seg [(.istore_n 1, 0, 0, 0)] [] (q := 18) (L' := [some (.ref a0), some (.int x6), none, none, none]) (st' := []) (v1 := w7) (by decide +kernel) rfl trivial ?_
  refine sim_seg [(.aload_n 0, 0, 0, 0), (.getfield 96, 6, 13, 0), (.istore_n 2, 0, 0, 0)] [] (q := 23) (L' := [some (.ref a0), some (.int x6), some (.int (gi w7 a0 13)), none, none]) (st' := []) (v1 := w7) (by decide +kernel) rfl ⟨h1, trivial⟩ ?_
  refine sim_seg [(.aload_n 0, 0, 0, 0), (.aload_n 0, 0, 0, 0)] [] (q := 25) (L' := [some (.ref a0), some (.int x6), some (.int (gi w7 a0 13)), none, none]) (st' := [.ref a0, .ref a0]) (v1 := w7) (by decide +kernel) rfl trivial ?_
  refine sc_pi (pc3 := 28) (cf_V (idx := 122) (ci := 6) [] m_gm_measuresPeriod (by decide) ⟨by decide, by decide⟩ (List.mem_of_getElem? (i := 1988) (by decide +kernel)) rfl (Nat.le_of_ble_eq_true rfl) h1 (by decide +kernel) (Nat.le_of_ble_eq_true rfl) rfl) (ok_gm_measuresPeriod N a0 S w7) rfl (fun x8 w9 => ?_)
  refine sc_pi (pc3 := 31) (cf_V (idx := 301) (ci := 6) [.int x8] m_gm_back (by decide) ⟨by decide, by decide⟩ (List.mem_of_getElem? (i := 1919) (by decide +kernel)) rfl (Nat.le_of_ble_eq_true rfl) h1 (by decide +kernel) (Nat.le_of_ble_eq_true rfl) rfl) (ok_gm_back N a0 x8 S w9) rfl (fun x10 w11 => ?_)
  refine sim_seg [(.istore_n 3, 0, 0, 0)] [] (q := 32) (L' := [some (.ref a0), some (.int x6), some (.int (gi w7 a0 13)), some (.int x10), none]) (st' := []) (v1 := w11) (by decide +kernel) rfl trivial ?_
  refine sim_seg [(.aload_n 0, 0, 0, 0), (.getfield 96, 6, 13, 0), (.istore 4, 0, 0, 0)] [] (q := 38) (L' := [some (.ref a0), some (.int x6), some (.int (gi w7 a0 13)), some (.int x10), some (.int (gi w11 a0 13))]) (st' := []) (v1 := w11) (by decide +kernel) rfl ⟨h1, trivial⟩ ?_
  refine sim_seg [(.iload_n 1, 0, 0, 0)] [] (q := 39) (L' := [some (.ref a0), some (.int x6), some (.int (gi w7 a0 13)), some (.int x10), some (.int (gi w11 a0 13))]) (st' := [.int x6]) (v1 := w11) (by decide +kernel) rfl trivial ?_
  refine sim_eq0 (o := 19) (tg := 58) (f := 42) (by decide +kernel) rfl rfl (fun _ => ?_) (fun _ => ?_)
  · exact sK_gm_choose_58 N S w11 a0 x6 (gi w7 a0 13) x10 (gi w11 a0 13)
  · refine sim_seg [(.iload_n 3, 0, 0, 0)] [] (q := 43) (L' := [some (.ref a0), some (.int x6), some (.int (gi w7 a0 13)), some (.int x10), some (.int (gi w11 a0 13))]) (st' := [.int x10]) (v1 := w11) (by decide +kernel) rfl trivial ?_
    refine sim_eq0 (o := 15) (tg := 58) (f := 46) (by decide +kernel) rfl rfl (fun _ => ?_) (fun _ => ?_)
    · exact sK_gm_choose_58 N S w11 a0 x6 (gi w7 a0 13) x10 (gi w11 a0 13)
    · refine sim_seg [(.aload_n 0, 0, 0, 0), (.iconst 0, 0, 0, 0), (.putfield 292, 6, 9, 0), (.aload_n 0, 0, 0, 0), (.iload_n 1, 0, 0, 0), (.iload_n 3, 0, 0, 0)] [] (q := 54) (L' := [some (.ref a0), some (.int x6), some (.int (gi w7 a0 13)), some (.int x10), some (.int (gi w11 a0 13))]) (st' := [.int x10, .int x6, .ref a0]) (v1 := (si w11 a0 9 (J 0))) (by decide +kernel) rfl ⟨h1, trivial⟩ ?_
      refine sim_lt (x := (si w11 a0 9 (J 0))) ?_
      generalize (si w11 a0 9 (J 0)) = w27
      refine sc_pi (pc3 := 57) (cf_V (idx := 340) (ci := 6) [.int x6, .int x10] m_gm_refuses (by decide) ⟨by decide, by decide⟩ (List.mem_of_getElem? (i := 2132) (by decide +kernel)) rfl (Nat.le_of_ble_eq_true rfl) h1 (by decide +kernel) (Nat.le_of_ble_eq_true rfl) rfl) (ok_gm_refuses a0 x6 x10 S w27) rfl (fun x28 w29 => ?_)
      exact sim_iret (by decide +kernel) rfl rfl rfl
def B_gm_calibrate : bd := (⟨"GateCounterModel", "calibrate", "(I)I"⟩, prog_8_method_117_code, 5, (some .int), [], 6, 5)
theorem m_gm_calibrate : mV B_gm_calibrate 6 1 := ⟨⟨⟨by decide +kernel, Or.inl rfl⟩, rfl, (List.mem_of_getElem? (i := 2167) (by decide +kernel)), by decide +kernel, (List.mem_of_getElem? (i := 104) (by decide +kernel)), ⟨by decide, by decide⟩, by decide⟩, rfl, (by unfold nar; decide +kernel), (List.mem_of_getElem? (i := 2165) (by decide +kernel)), rfl, (List.mem_of_getElem? (i := 2166) (by decide +kernel))⟩
noncomputable def K_gm_calibrate_22 (N : Nat)  (S : shp) (v : vl) (p0 : Nat) (p1 : Int32) (s0 : Nat) (s1 : Int32) : Option (Int32 × vl) :=
  grd (kin S s0 = some (0, 6)) <| (F_gm_fails s0 s1 (J 1) S v).bind fun (x5, w6) => (if x5 = (J 0) then grd (kin S p0 = some (0, 6)) <| (gr S p0 0).bind fun r8 => grd (kin S r8 = some (1, 199)) <| (if (J 2000000) < ((gi w6 r8 0) + p1) then (F_gm_refuses p0 (J 1) (J 0) S w6).bind fun (x11, w12) => some ((x11, w12)) else (F_gm_thinks N p0 S w6).bind fun w13 => (F_gm_goesTo N p0 ((gi w13 r8 0) + p1) S w13).bind fun w14 => lt ((gi w14 r8 11) - (gi w13 r8 11)) fun x15 => (if x15 = (J 0) then (F_gm_back N p0 (J 0) S w14).bind fun (x16, w17) => (F_gm_refuses p0 (J 4) x16 S w17).bind fun (x18, w19) => some ((x18, w19)) else (F_gm_stays N p0 S w14).bind fun w20 => grd (¬ (x15 * (gi w20 r8 1)) = 0) <| lt (((p1 * (J 1000)) / (x15 * (gi w20 r8 1))) - (J 1000)) fun x22 => (F_ma_min (J 99) x22 S w20).bind fun x23 => (F_ma_max (J (-99)) x23 S w20).bind fun x24 => lt (si w20 r8 7 x24) fun w25 => some ((((gi w25 r8 7) + (J 99)), w25)))) else some (((J 0), w6)))
theorem sK_gm_calibrate_22 (N : Nat)   (S : shp) (v : vl) (p0 : Nat) (p1 : Int32) (s0 : Nat) (s1 : Int32) : SimK B_gm_calibrate 22 [some (.ref p0), some (.int p1), none, none, none] [.int s1, .ref s0] S v (K_gm_calibrate_22 N  S v p0 p1 s0 s1) (ρpi S) := by
  unfold K_gm_calibrate_22
  refine sim_seg [(.iconst 1, 0, 0, 1)] [] (q := 23) (L' := [some (.ref p0), some (.int p1), none, none, none]) (st' := [.int (J 1), .int s1, .ref s0]) (v1 := v) (by decide +kernel) rfl trivial ?_
  refine sim_grd fun h4 => ?_
  refine sc_pi (pc3 := 26) (cf_V (idx := 279) (ci := 6) [.int s1, .int (J 1)] m_gm_fails (by decide) ⟨by decide, by decide⟩ (List.mem_of_getElem? (i := 1827) (by decide +kernel)) rfl (Nat.le_of_ble_eq_true rfl) h4 (by decide +kernel) (Nat.le_of_ble_eq_true rfl) rfl) (ok_gm_fails s0 s1 (J 1) S v) rfl (fun x5 w6 => ?_)
  refine sim_eq0 (o := 5) (tg := 31) (f := 29) (by decide +kernel) rfl rfl (fun _ => ?_) (fun _ => ?_)
  · refine sim_grd fun h7 => ?_
    refine sim_bind fun r8 h9 => ?_
    refine sim_grd fun h10 => ?_
    refine sim_seg [(.aload_n 0, 0, 0, 0), (.getfield 7, 6, 0, 0), (.iconst 0, 0, 0, 0), (.iaload, 0, 0, 0), (.iload_n 1, 0, 0, 0), (.iadd, 0, 0, 0), (.ldc 92, 0, 0, 2000000)] [r8] (q := 41) (L' := [some (.ref p0), some (.int p1), none, none, none]) (st' := [.int (J 2000000), .int ((gi w6 r8 0) + p1)]) (v1 := w6) (by decide +kernel) rfl ⟨⟨h7, h9⟩, ⟨(Or.inl (kin_alen h10)), (vin_J h10 (by unfold vp_in; decide))⟩, trivial⟩ ?_
    refine sim_le (o := 10) (tg := 51) (f := 44) (by decide +kernel) rfl rfl (fun _ => ?_) (fun _ => ?_)
    · refine sim_seg [(.aload_n 0, 0, 0, 0), (.iconst 1, 0, 0, 1), (.iconst 0, 0, 0, 0)] [] (q := 47) (L' := [some (.ref p0), some (.int p1), none, none, none]) (st' := [.int (J 0), .int (J 1), .ref p0]) (v1 := w6) (by decide +kernel) rfl trivial ?_
      refine sc_pi (pc3 := 50) (cf_V (idx := 340) (ci := 6) [.int (J 1), .int (J 0)] m_gm_refuses (by decide) ⟨by decide, by decide⟩ (List.mem_of_getElem? (i := 2132) (by decide +kernel)) rfl (Nat.le_of_ble_eq_true rfl) h7 (by decide +kernel) (Nat.le_of_ble_eq_true rfl) rfl) (ok_gm_refuses p0 (J 1) (J 0) S w6) rfl (fun x11 w12 => ?_)
      exact sim_iret (by decide +kernel) rfl rfl rfl
    · refine sim_seg [(.aload_n 0, 0, 0, 0)] [] (q := 52) (L' := [some (.ref p0), some (.int p1), none, none, none]) (st' := [.ref p0]) (v1 := w6) (by decide +kernel) rfl trivial ?_
      refine sc_pv (pc3 := 55) (cf_V (idx := 295) (ci := 6) [] m_gm_thinks (by decide) ⟨by decide, by decide⟩ (List.mem_of_getElem? (i := 1884) (by decide +kernel)) rfl (Nat.le_of_ble_eq_true rfl) h7 (by decide +kernel) (Nat.le_of_ble_eq_true rfl) rfl) (ok_gm_thinks N p0 S w6) rfl (fun w13 => ?_)
      refine sim_seg [(.aload_n 0, 0, 0, 0), (.getfield 7, 6, 0, 0), (.bipush 11, 0, 0, 11), (.iaload, 0, 0, 0), (.istore_n 2, 0, 0, 0)] [r8] (q := 63) (L' := [some (.ref p0), some (.int p1), some (.int (gi w13 r8 11)), none, none]) (st' := []) (v1 := w13) (by decide +kernel) rfl ⟨⟨h7, h9⟩, ⟨(Or.inl (kin_alen h10)), (vin_J h10 (by unfold vp_in; decide))⟩, trivial⟩ ?_
      refine sim_seg [(.aload_n 0, 0, 0, 0), (.aload_n 0, 0, 0, 0), (.getfield 7, 6, 0, 0), (.iconst 0, 0, 0, 0), (.iaload, 0, 0, 0), (.iload_n 1, 0, 0, 0), (.iadd, 0, 0, 0)] [r8] (q := 72) (L' := [some (.ref p0), some (.int p1), some (.int (gi w13 r8 11)), none, none]) (st' := [.int ((gi w13 r8 0) + p1), .ref p0]) (v1 := w13) (by decide +kernel) rfl ⟨⟨h7, h9⟩, ⟨(Or.inl (kin_alen h10)), (vin_J h10 (by unfold vp_in; decide))⟩, trivial⟩ ?_
      refine sc_pv (pc3 := 75) (cf_V (idx := 298) (ci := 6) [.int ((gi w13 r8 0) + p1)] m_gm_goesTo (by decide) ⟨by decide, by decide⟩ (List.mem_of_getElem? (i := 1888) (by decide +kernel)) rfl (Nat.le_of_ble_eq_true rfl) h7 (by decide +kernel) (Nat.le_of_ble_eq_true rfl) rfl) (ok_gm_goesTo N p0 ((gi w13 r8 0) + p1) S w13) rfl (fun w14 => ?_)
      refine sim_seg [(.aload_n 0, 0, 0, 0), (.getfield 7, 6, 0, 0), (.bipush 11, 0, 0, 11), (.iaload, 0, 0, 0), (.iload_n 2, 0, 0, 0), (.isub, 0, 0, 0), (.istore_n 3, 0, 0, 0)] [r8] (q := 85) (L' := [some (.ref p0), some (.int p1), some (.int (gi w13 r8 11)), some (.int ((gi w14 r8 11) - (gi w13 r8 11))), none]) (st' := []) (v1 := w14) (by decide +kernel) rfl ⟨⟨h7, h9⟩, ⟨(Or.inl (kin_alen h10)), (vin_J h10 (by unfold vp_in; decide))⟩, trivial⟩ ?_
      refine sim_nm ((gi w14 r8 11) - (gi w13 r8 11)) (fun x15 => [some (.ref p0), some (.int p1), some (.int (gi w13 r8 11)), some (.int x15), none]) (fun x15 => []) (fun x15 => ?_) rfl rfl
      refine sim_seg [(.iload_n 3, 0, 0, 0)] [] (q := 86) (L' := [some (.ref p0), some (.int p1), some (.int (gi w13 r8 11)), some (.int x15), none]) (st' := [.int x15]) (v1 := w14) (by decide +kernel) rfl trivial ?_
      refine sim_ne0 (o := 14) (tg := 100) (f := 89) (by decide +kernel) rfl rfl (fun _ => ?_) (fun _ => ?_)
      · refine sim_seg [(.aload_n 0, 0, 0, 0), (.iconst 4, 0, 0, 4), (.aload_n 0, 0, 0, 0), (.iconst 0, 0, 0, 0)] [] (q := 93) (L' := [some (.ref p0), some (.int p1), some (.int (gi w13 r8 11)), some (.int x15), none]) (st' := [.int (J 0), .ref p0, .int (J 4), .ref p0]) (v1 := w14) (by decide +kernel) rfl trivial ?_
        refine sc_pi (pc3 := 96) (cf_V (idx := 301) (ci := 6) [.int (J 0)] m_gm_back (by decide) ⟨by decide, by decide⟩ (List.mem_of_getElem? (i := 1919) (by decide +kernel)) rfl (Nat.le_of_ble_eq_true rfl) h7 (by decide +kernel) (Nat.le_of_ble_eq_true rfl) rfl) (ok_gm_back N p0 (J 0) S w14) rfl (fun x16 w17 => ?_)
        refine sc_pi (pc3 := 99) (cf_V (idx := 340) (ci := 6) [.int (J 4), .int x16] m_gm_refuses (by decide) ⟨by decide, by decide⟩ (List.mem_of_getElem? (i := 2132) (by decide +kernel)) rfl (Nat.le_of_ble_eq_true rfl) h7 (by decide +kernel) (Nat.le_of_ble_eq_true rfl) rfl) (ok_gm_refuses p0 (J 4) x16 S w17) rfl (fun x18 w19 => ?_)
        exact sim_iret (by decide +kernel) rfl rfl rfl
      · refine sim_seg [(.aload_n 0, 0, 0, 0)] [] (q := 101) (L' := [some (.ref p0), some (.int p1), some (.int (gi w13 r8 11)), some (.int x15), none]) (st' := [.ref p0]) (v1 := w14) (by decide +kernel) rfl trivial ?_
        refine sc_pv (pc3 := 104) (cf_V (idx := 343) (ci := 6) [] m_gm_stays (by decide) ⟨by decide, by decide⟩ (List.mem_of_getElem? (i := 2136) (by decide +kernel)) rfl (Nat.le_of_ble_eq_true rfl) h7 (by decide +kernel) (Nat.le_of_ble_eq_true rfl) rfl) (ok_gm_stays N p0 S w14) rfl (fun w20 => ?_)
        refine sim_grd fun h21 => ?_
        refine sim_seg [(.iload_n 1, 0, 0, 0), (.sipush 1000, 0, 0, 1000), (.imul, 0, 0, 0), (.iload_n 3, 0, 0, 0), (.aload_n 0, 0, 0, 0), (.getfield 7, 6, 0, 0), (.iconst 1, 0, 0, 1), (.iaload, 0, 0, 0), (.imul, 0, 0, 0), (.idiv, 0, 0, 0), (.sipush 1000, 0, 0, 1000), (.isub, 0, 0, 0)] [r8] (q := 122) (L' := [some (.ref p0), some (.int p1), some (.int (gi w13 r8 11)), some (.int x15), none]) (st' := [.int (((p1 * (J 1000)) / (x15 * (gi w20 r8 1))) - (J 1000))]) (v1 := w20) (by decide +kernel) rfl ⟨⟨h7, h9⟩, ⟨(Or.inl (kin_alen h10)), (vin_J h10 (by unfold vp_in; decide))⟩, h21, trivial⟩ ?_
        refine sim_seg [(.istore 4, 0, 0, 0)] [] (q := 124) (L' := [some (.ref p0), some (.int p1), some (.int (gi w13 r8 11)), some (.int x15), some (.int (((p1 * (J 1000)) / (x15 * (gi w20 r8 1))) - (J 1000)))]) (st' := []) (v1 := w20) (by decide +kernel) rfl trivial ?_
        refine sim_nm (((p1 * (J 1000)) / (x15 * (gi w20 r8 1))) - (J 1000)) (fun x22 => [some (.ref p0), some (.int p1), some (.int (gi w13 r8 11)), some (.int x15), some (.int x22)]) (fun x22 => []) (fun x22 => ?_) rfl rfl
        refine sim_seg [(.aload_n 0, 0, 0, 0), (.getfield 7, 6, 0, 0), (.bipush 7, 0, 0, 7), (.bipush (-99), 0, 0, (-99)), (.bipush 99, 0, 0, 99), (.iload 4, 0, 0, 0)] [r8] (q := 136) (L' := [some (.ref p0), some (.int p1), some (.int (gi w13 r8 11)), some (.int x15), some (.int x22)]) (st' := [.int x22, .int (J 99), .int (J (-99)), .int (J 7), .ref r8]) (v1 := w20) (by decide +kernel) rfl ⟨⟨h7, h9⟩, trivial⟩ ?_
        refine sc_ri (pc3 := 139) (cf_S (idx := 60) [.int (J 99), .int x22] m_ma_min ⟨by decide, by decide⟩ (List.mem_of_getElem? (i := 1916) (by decide +kernel)) rfl (Nat.le_of_ble_eq_true rfl) (by decide +kernel) (Nat.le_of_ble_eq_true rfl) rfl) (ok_ma_min (J 99) x22 S w20) rfl (fun x23 => ?_)
        refine sc_ri (pc3 := 142) (cf_S (idx := 66) [.int (J (-99)), .int x23] m_ma_max ⟨by decide, by decide⟩ (List.mem_of_getElem? (i := 1917) (by decide +kernel)) rfl (Nat.le_of_ble_eq_true rfl) (by decide +kernel) (Nat.le_of_ble_eq_true rfl) rfl) (ok_ma_max (J (-99)) x23 S w20) rfl (fun x24 => ?_)
        refine sim_seg [(.iastore, 0, 0, 0), (.aload_n 0, 0, 0, 0)] [] (q := 144) (L' := [some (.ref p0), some (.int p1), some (.int (gi w13 r8 11)), some (.int x15), some (.int x22)]) (st' := [.ref p0]) (v1 := (si w20 r8 7 x24)) (by decide +kernel) rfl ⟨⟨(kin_alen h10), (vin_J h10 (by unfold vp_in; decide))⟩, trivial⟩ ?_
        refine sim_lt (x := (si w20 r8 7 x24)) ?_
        generalize (si w20 r8 7 x24) = w25
        refine sim_seg [(.getfield 7, 6, 0, 0), (.bipush 7, 0, 0, 7), (.iaload, 0, 0, 0), (.bipush 99, 0, 0, 99), (.iadd, 0, 0, 0)] [r8] (q := 153) (L' := [some (.ref p0), some (.int p1), some (.int (gi w13 r8 11)), some (.int x15), some (.int x22)]) (st' := [.int ((gi w25 r8 7) + (J 99))]) (v1 := w25) (by decide +kernel) rfl ⟨⟨h7, h9⟩, ⟨(Or.inl (kin_alen h10)), (vin_J h10 (by unfold vp_in; decide))⟩, trivial⟩ ?_
        exact sim_iret (by decide +kernel) rfl rfl rfl
  · refine sim_seg [(.iconst 0, 0, 0, 0)] [] (q := 30) (L' := [some (.ref p0), some (.int p1), none, none, none]) (st' := [.int (J 0)]) (v1 := w6) (by decide +kernel) rfl trivial ?_
    exact sim_iret (by decide +kernel) rfl rfl rfl
noncomputable def F_gm_calibrate (N : Nat) (a0 : Nat) (b1 : Int32) (S : shp) (v : vl) : Option (Int32 × vl) :=
  grd (kin S a0 = some (0, 6)) <| lt (si v a0 10 (J 0)) fun w2 => (F_gm_inRange b1 (J 1) (J 100000) S w2).bind fun x3 => (if x3 = (J 0) then K_gm_calibrate_22 N  S w2 a0 b1 a0 (J 1) else K_gm_calibrate_22 N  S w2 a0 b1 a0 (J 0))
theorem ok_gm_calibrate (N : Nat) (a0 : Nat) (b1 : Int32) (S : shp) (v : vl) : SimK B_gm_calibrate 0 (entB (bN B_gm_calibrate) [.ref a0, .int b1]) [] S v (F_gm_calibrate N a0 b1 S v) (ρpi S) := by
  show SimK B_gm_calibrate 0 [some (.ref a0), some (.int b1), none, none, none] [] S v (F_gm_calibrate N a0 b1 S v) _
  unfold F_gm_calibrate
  refine sim_grd fun h1 => ?_
  refine sim_seg [(.aload_n 0, 0, 0, 0), (.iconst 0, 0, 0, 0), (.putfield 38, 6, 10, 0), (.aload_n 0, 0, 0, 0), (.iload_n 1, 0, 0, 0), (.iconst 1, 0, 0, 1), (.ldc_w 304, 0, 0, 100000)] [] (q := 11) (L' := [some (.ref a0), some (.int b1), none, none, none]) (st' := [.int (J 100000), .int (J 1), .int b1, .ref a0]) (v1 := (si v a0 10 (J 0))) (by decide +kernel) rfl ⟨h1, trivial⟩ ?_
  refine sim_lt (x := (si v a0 10 (J 0))) ?_
  generalize (si v a0 10 (J 0)) = w2
  refine sc_ri (pc3 := 14) (cf_S (idx := 41) [.int b1, .int (J 1), .int (J 100000)] m_gm_inRange ⟨by decide, by decide⟩ (List.mem_of_getElem? (i := 1712) (by decide +kernel)) rfl (Nat.le_of_ble_eq_true rfl) (by decide +kernel) (Nat.le_of_ble_eq_true rfl) rfl) (ok_gm_inRange b1 (J 1) (J 100000) S w2) rfl (fun x3 => ?_)
  refine sim_ne0 (o := 7) (tg := 21) (f := 17) (by decide +kernel) rfl rfl (fun _ => ?_) (fun _ => ?_)
  · refine sim_seg [(.iconst 1, 0, 0, 1), (.goto 4, 0, 0, 0)] [] (q := 22) (L' := [some (.ref a0), some (.int b1), none, none, none]) (st' := [.int (J 1), .ref a0]) (v1 := w2) (by decide +kernel) rfl trivial ?_
    exact sK_gm_calibrate_22 N S w2 a0 b1 a0 (J 1)
  · refine sim_seg [(.iconst 0, 0, 0, 0)] [] (q := 22) (L' := [some (.ref a0), some (.int b1), none, none, none]) (st' := [.int (J 0), .ref a0]) (v1 := w2) (by decide +kernel) rfl trivial ?_
    exact sK_gm_calibrate_22 N S w2 a0 b1 a0 (J 0)
def B_gm_setPrescale : bd := (⟨"GateCounterModel", "setPrescale", "(I)I"⟩, prog_8_method_118_code, 3, (some .int), [], 6, 3)
theorem m_gm_setPrescale : mV B_gm_setPrescale 6 1 := ⟨⟨⟨by decide +kernel, Or.inl rfl⟩, rfl, (List.mem_of_getElem? (i := 2171) (by decide +kernel)), by decide +kernel, (List.mem_of_getElem? (i := 104) (by decide +kernel)), ⟨by decide, by decide⟩, by decide⟩, rfl, (by unfold nar; decide +kernel), (List.mem_of_getElem? (i := 2169) (by decide +kernel)), rfl, (List.mem_of_getElem? (i := 2170) (by decide +kernel))⟩
noncomputable def K_gm_setPrescale_18 (N : Nat)  (S : shp) (v : vl) (p0 : Nat) (p1 : Int32) (s0 : Nat) (s1 : Int32) : Option (Int32 × vl) :=
  grd (kin S s0 = some (0, 6)) <| (F_gm_fails s0 s1 (J 1) S v).bind fun (x5, w6) => (if x5 = (J 0) then grd (kin S p0 = some (0, 6)) <| (F_gm_remembers N p0 S w6).bind fun w8 => (gr S p0 0).bind fun r9 => grd (kin S r9 = some (1, 199)) <| lt (si w8 r9 4 p1) fun w12 => lt (si w12 r9 15 (J 0)) fun w13 => lt (si w13 r9 17 (J 0)) fun w14 => lt (si w14 r9 18 (J 0)) fun w15 => some (((gi w8 r9 4), w15)) else some (((J 0), w6)))
theorem sK_gm_setPrescale_18 (N : Nat)   (S : shp) (v : vl) (p0 : Nat) (p1 : Int32) (s0 : Nat) (s1 : Int32) : SimK B_gm_setPrescale 18 [some (.ref p0), some (.int p1), none] [.int s1, .ref s0] S v (K_gm_setPrescale_18 N  S v p0 p1 s0 s1) (ρpi S) := by
  unfold K_gm_setPrescale_18
  refine sim_seg [(.iconst 1, 0, 0, 1)] [] (q := 19) (L' := [some (.ref p0), some (.int p1), none]) (st' := [.int (J 1), .int s1, .ref s0]) (v1 := v) (by decide +kernel) rfl trivial ?_
  refine sim_grd fun h4 => ?_
  refine sc_pi (pc3 := 22) (cf_V (idx := 279) (ci := 6) [.int s1, .int (J 1)] m_gm_fails (by decide) ⟨by decide, by decide⟩ (List.mem_of_getElem? (i := 1827) (by decide +kernel)) rfl (Nat.le_of_ble_eq_true rfl) h4 (by decide +kernel) (Nat.le_of_ble_eq_true rfl) rfl) (ok_gm_fails s0 s1 (J 1) S v) rfl (fun x5 w6 => ?_)
  refine sim_eq0 (o := 5) (tg := 27) (f := 25) (by decide +kernel) rfl rfl (fun _ => ?_) (fun _ => ?_)
  · refine sim_seg [(.aload_n 0, 0, 0, 0)] [] (q := 28) (L' := [some (.ref p0), some (.int p1), none]) (st' := [.ref p0]) (v1 := w6) (by decide +kernel) rfl trivial ?_
    refine sim_grd fun h7 => ?_
    refine sc_pv (pc3 := 31) (cf_V (idx := 337) (ci := 6) [] m_gm_remembers (by decide) ⟨by decide, by decide⟩ (List.mem_of_getElem? (i := 2116) (by decide +kernel)) rfl (Nat.le_of_ble_eq_true rfl) h7 (by decide +kernel) (Nat.le_of_ble_eq_true rfl) rfl) (ok_gm_remembers N p0 S w6) rfl (fun w8 => ?_)
    refine sim_bind fun r9 h10 => ?_
    refine sim_grd fun h11 => ?_
    refine sim_seg [(.aload_n 0, 0, 0, 0), (.getfield 7, 6, 0, 0), (.iconst 4, 0, 0, 4), (.iaload, 0, 0, 0), (.istore_n 2, 0, 0, 0)] [r9] (q := 38) (L' := [some (.ref p0), some (.int p1), some (.int (gi w8 r9 4))]) (st' := []) (v1 := w8) (by decide +kernel) rfl ⟨⟨h7, h10⟩, ⟨(Or.inl (kin_alen h11)), (vin_J h11 (by unfold vp_in; decide))⟩, trivial⟩ ?_
    refine sim_seg [(.aload_n 0, 0, 0, 0), (.getfield 7, 6, 0, 0), (.iconst 4, 0, 0, 4), (.iload_n 1, 0, 0, 0), (.iastore, 0, 0, 0), (.aload_n 0, 0, 0, 0)] [r9] (q := 46) (L' := [some (.ref p0), some (.int p1), some (.int (gi w8 r9 4))]) (st' := [.ref p0]) (v1 := (si w8 r9 4 p1)) (by decide +kernel) rfl ⟨⟨h7, h10⟩, ⟨(kin_alen h11), (vin_J h11 (by unfold vp_in; decide))⟩, trivial⟩ ?_
    refine sim_lt (x := (si w8 r9 4 p1)) ?_
    generalize (si w8 r9 4 p1) = w12
    refine sim_seg [(.getfield 7, 6, 0, 0), (.bipush 15, 0, 0, 15), (.iconst 0, 0, 0, 0), (.iastore, 0, 0, 0), (.aload_n 0, 0, 0, 0)] [r9] (q := 54) (L' := [some (.ref p0), some (.int p1), some (.int (gi w8 r9 4))]) (st' := [.ref p0]) (v1 := (si w12 r9 15 (J 0))) (by decide +kernel) rfl ⟨⟨h7, h10⟩, ⟨(kin_alen h11), (vin_J h11 (by unfold vp_in; decide))⟩, trivial⟩ ?_
    refine sim_lt (x := (si w12 r9 15 (J 0))) ?_
    generalize (si w12 r9 15 (J 0)) = w13
    refine sim_seg [(.getfield 7, 6, 0, 0), (.bipush 17, 0, 0, 17), (.iconst 0, 0, 0, 0), (.iastore, 0, 0, 0), (.aload_n 0, 0, 0, 0)] [r9] (q := 62) (L' := [some (.ref p0), some (.int p1), some (.int (gi w8 r9 4))]) (st' := [.ref p0]) (v1 := (si w13 r9 17 (J 0))) (by decide +kernel) rfl ⟨⟨h7, h10⟩, ⟨(kin_alen h11), (vin_J h11 (by unfold vp_in; decide))⟩, trivial⟩ ?_
    refine sim_lt (x := (si w13 r9 17 (J 0))) ?_
    generalize (si w13 r9 17 (J 0)) = w14
    refine sim_seg [(.getfield 7, 6, 0, 0), (.bipush 18, 0, 0, 18), (.iconst 0, 0, 0, 0), (.iastore, 0, 0, 0), (.iload_n 2, 0, 0, 0)] [r9] (q := 70) (L' := [some (.ref p0), some (.int p1), some (.int (gi w8 r9 4))]) (st' := [.int (gi w8 r9 4)]) (v1 := (si w14 r9 18 (J 0))) (by decide +kernel) rfl ⟨⟨h7, h10⟩, ⟨(kin_alen h11), (vin_J h11 (by unfold vp_in; decide))⟩, trivial⟩ ?_
    refine sim_lt (x := (si w14 r9 18 (J 0))) ?_
    generalize (si w14 r9 18 (J 0)) = w15
    exact sim_iret (by decide +kernel) rfl rfl rfl
  · refine sim_seg [(.iconst 0, 0, 0, 0)] [] (q := 26) (L' := [some (.ref p0), some (.int p1), none]) (st' := [.int (J 0)]) (v1 := w6) (by decide +kernel) rfl trivial ?_
    exact sim_iret (by decide +kernel) rfl rfl rfl
noncomputable def F_gm_setPrescale (N : Nat) (a0 : Nat) (b1 : Int32) (S : shp) (v : vl) : Option (Int32 × vl) :=
  grd (kin S a0 = some (0, 6)) <| lt (si v a0 10 (J 0)) fun w2 => (F_gm_mayBeP b1 S w2).bind fun x3 => (if x3 = (J 0) then K_gm_setPrescale_18 N  S w2 a0 b1 a0 (J 1) else K_gm_setPrescale_18 N  S w2 a0 b1 a0 (J 0))
theorem ok_gm_setPrescale (N : Nat) (a0 : Nat) (b1 : Int32) (S : shp) (v : vl) : SimK B_gm_setPrescale 0 (entB (bN B_gm_setPrescale) [.ref a0, .int b1]) [] S v (F_gm_setPrescale N a0 b1 S v) (ρpi S) := by
  show SimK B_gm_setPrescale 0 [some (.ref a0), some (.int b1), none] [] S v (F_gm_setPrescale N a0 b1 S v) _
  unfold F_gm_setPrescale
  refine sim_grd fun h1 => ?_
  refine sim_seg [(.aload_n 0, 0, 0, 0), (.iconst 0, 0, 0, 0), (.putfield 38, 6, 10, 0), (.aload_n 0, 0, 0, 0), (.iload_n 1, 0, 0, 0)] [] (q := 7) (L' := [some (.ref a0), some (.int b1), none]) (st' := [.int b1, .ref a0]) (v1 := (si v a0 10 (J 0))) (by decide +kernel) rfl ⟨h1, trivial⟩ ?_
  refine sim_lt (x := (si v a0 10 (J 0))) ?_
  generalize (si v a0 10 (J 0)) = w2
  refine sc_ri (pc3 := 10) (cf_S (idx := 232) [.int b1] m_gm_mayBeP ⟨by decide, by decide⟩ (List.mem_of_getElem? (i := 1784) (by decide +kernel)) rfl (Nat.le_of_ble_eq_true rfl) (by decide +kernel) (Nat.le_of_ble_eq_true rfl) rfl) (ok_gm_mayBeP b1 S w2) rfl (fun x3 => ?_)
  refine sim_ne0 (o := 7) (tg := 17) (f := 13) (by decide +kernel) rfl rfl (fun _ => ?_) (fun _ => ?_)
  · refine sim_seg [(.iconst 1, 0, 0, 1), (.goto 4, 0, 0, 0)] [] (q := 18) (L' := [some (.ref a0), some (.int b1), none]) (st' := [.int (J 1), .ref a0]) (v1 := w2) (by decide +kernel) rfl trivial ?_
    exact sK_gm_setPrescale_18 N S w2 a0 b1 a0 (J 1)
  · refine sim_seg [(.iconst 0, 0, 0, 0)] [] (q := 18) (L' := [some (.ref a0), some (.int b1), none]) (st' := [.int (J 0), .ref a0]) (v1 := w2) (by decide +kernel) rfl trivial ?_
    exact sK_gm_setPrescale_18 N S w2 a0 b1 a0 (J 0)
def B_gm_mayBe : bd := (⟨"GateCounterModel", "mayBe", "(II)Z"⟩, prog_8_method_119_code, 2, (some .boolean), [], 6, 2)
theorem m_gm_mayBe : mS B_gm_mayBe 2 := ⟨⟨⟨by decide +kernel, Or.inl rfl⟩, rfl, (List.mem_of_getElem? (i := 2178) (by decide +kernel)), by decide +kernel, (List.mem_of_getElem? (i := 104) (by decide +kernel)), ⟨by decide, by decide⟩, by decide⟩, rfl, (by unfold nar; decide +kernel), (List.mem_of_getElem? (i := 2177) (by decide +kernel))⟩
noncomputable def F_gm_mayBe (b0 : Int32) (b1 : Int32) (S : shp) (v : vl) : Option Int32 :=
  (if b0 = J 1 then (F_gm_isUpTo b1 (J 99) S v).bind fun x1 => grd (narrow .boolean (.int x1) = .int x1) <| some (x1) else if b0 = J 2 then (F_gm_isUpTo b1 (J 1) S v).bind fun x4 => grd (narrow .boolean (.int x4) = .int x4) <| some (x4) else if b0 = J 3 then some ((J 0)) else if b0 = J 4 then (F_gm_inRange b1 (J 1) (J 9999) S v).bind fun x8 => grd (narrow .boolean (.int x8) = .int x8) <| some (x8) else if b0 = J 5 then (F_gm_inRange b1 (J 1) (J 999) S v).bind fun x11 => grd (narrow .boolean (.int x11) = .int x11) <| some (x11) else if b0 = J 6 then (F_gm_isUpTo b1 (J 99) S v).bind fun x14 => grd (narrow .boolean (.int x14) = .int x14) <| some (x14) else some ((J 0)))
theorem ok_gm_mayBe (b0 : Int32) (b1 : Int32) (S : shp) (v : vl) : SimK B_gm_mayBe 0 (entB (bN B_gm_mayBe) [.int b0, .int b1]) [] S v (F_gm_mayBe b0 b1 S v) (ρri S v) := by
  show SimK B_gm_mayBe 0 [some (.int b0), some (.int b1)] [] S v (F_gm_mayBe b0 b1 S v) _
  unfold F_gm_mayBe
  refine sim_seg [(.iload_n 0, 0, 0, 0)] [] (q := 1) (L' := [some (.int b0), some (.int b1)]) (st' := [.int b0]) (v1 := v) (by decide +kernel) rfl trivial ?_
  refine sim_case (df := 77) (lw := 1) (hg := 6) (offs := #[39, 46, 77, 52, 61, 70]) (len := 39) (z := 1) (o := 39) (tg := 40) (by decide +kernel) rfl rfl (by decide) (fun _ => ?_) (fun h3 => ?_)
  · refine sim_seg [(.iload_n 1, 0, 0, 0), (.bipush 99, 0, 0, 99)] [] (q := 43) (L' := [some (.int b0), some (.int b1)]) (st' := [.int (J 99), .int b1]) (v1 := v) (by decide +kernel) rfl trivial ?_
    refine sc_ri (pc3 := 46) (cf_S (idx := 314) [.int b1, .int (J 99)] m_gm_isUpTo ⟨by decide, by decide⟩ (List.mem_of_getElem? (i := 1972) (by decide +kernel)) rfl (Nat.le_of_ble_eq_true rfl) (by decide +kernel) (Nat.le_of_ble_eq_true rfl) rfl) (ok_gm_isUpTo b1 (J 99) S v) rfl (fun x1 => ?_)
    refine sim_grd fun h2 => ?_
    exact sim_iret (by decide +kernel) rfl h2 rfl
  refine sim_case (df := 77) (lw := 1) (hg := 6) (offs := #[39, 46, 77, 52, 61, 70]) (len := 39) (z := 2) (o := 46) (tg := 47) (by decide +kernel) rfl rfl (by decide) (fun _ => ?_) (fun h6 => ?_)
  · refine sim_seg [(.iload_n 1, 0, 0, 0), (.iconst 1, 0, 0, 1)] [] (q := 49) (L' := [some (.int b0), some (.int b1)]) (st' := [.int (J 1), .int b1]) (v1 := v) (by decide +kernel) rfl trivial ?_
    refine sc_ri (pc3 := 52) (cf_S (idx := 314) [.int b1, .int (J 1)] m_gm_isUpTo ⟨by decide, by decide⟩ (List.mem_of_getElem? (i := 1972) (by decide +kernel)) rfl (Nat.le_of_ble_eq_true rfl) (by decide +kernel) (Nat.le_of_ble_eq_true rfl) rfl) (ok_gm_isUpTo b1 (J 1) S v) rfl (fun x4 => ?_)
    refine sim_grd fun h5 => ?_
    exact sim_iret (by decide +kernel) rfl h5 rfl
  refine sim_case (df := 77) (lw := 1) (hg := 6) (offs := #[39, 46, 77, 52, 61, 70]) (len := 39) (z := 3) (o := 77) (tg := 78) (by decide +kernel) rfl rfl (by decide) (fun _ => ?_) (fun h7 => ?_)
  · refine sim_seg [(.iconst 0, 0, 0, 0)] [] (q := 79) (L' := [some (.int b0), some (.int b1)]) (st' := [.int (J 0)]) (v1 := v) (by decide +kernel) rfl trivial ?_
    exact sim_iret (by decide +kernel) rfl (by decide) rfl
  refine sim_case (df := 77) (lw := 1) (hg := 6) (offs := #[39, 46, 77, 52, 61, 70]) (len := 39) (z := 4) (o := 52) (tg := 53) (by decide +kernel) rfl rfl (by decide) (fun _ => ?_) (fun h10 => ?_)
  · refine sim_seg [(.iload_n 1, 0, 0, 0), (.iconst 1, 0, 0, 1), (.sipush 9999, 0, 0, 9999)] [] (q := 58) (L' := [some (.int b0), some (.int b1)]) (st' := [.int (J 9999), .int (J 1), .int b1]) (v1 := v) (by decide +kernel) rfl trivial ?_
    refine sc_ri (pc3 := 61) (cf_S (idx := 41) [.int b1, .int (J 1), .int (J 9999)] m_gm_inRange ⟨by decide, by decide⟩ (List.mem_of_getElem? (i := 1712) (by decide +kernel)) rfl (Nat.le_of_ble_eq_true rfl) (by decide +kernel) (Nat.le_of_ble_eq_true rfl) rfl) (ok_gm_inRange b1 (J 1) (J 9999) S v) rfl (fun x8 => ?_)
    refine sim_grd fun h9 => ?_
    exact sim_iret (by decide +kernel) rfl h9 rfl
  refine sim_case (df := 77) (lw := 1) (hg := 6) (offs := #[39, 46, 77, 52, 61, 70]) (len := 39) (z := 5) (o := 61) (tg := 62) (by decide +kernel) rfl rfl (by decide) (fun _ => ?_) (fun h13 => ?_)
  · refine sim_seg [(.iload_n 1, 0, 0, 0), (.iconst 1, 0, 0, 1), (.sipush 999, 0, 0, 999)] [] (q := 67) (L' := [some (.int b0), some (.int b1)]) (st' := [.int (J 999), .int (J 1), .int b1]) (v1 := v) (by decide +kernel) rfl trivial ?_
    refine sc_ri (pc3 := 70) (cf_S (idx := 41) [.int b1, .int (J 1), .int (J 999)] m_gm_inRange ⟨by decide, by decide⟩ (List.mem_of_getElem? (i := 1712) (by decide +kernel)) rfl (Nat.le_of_ble_eq_true rfl) (by decide +kernel) (Nat.le_of_ble_eq_true rfl) rfl) (ok_gm_inRange b1 (J 1) (J 999) S v) rfl (fun x11 => ?_)
    refine sim_grd fun h12 => ?_
    exact sim_iret (by decide +kernel) rfl h12 rfl
  refine sim_case (df := 77) (lw := 1) (hg := 6) (offs := #[39, 46, 77, 52, 61, 70]) (len := 39) (z := 6) (o := 70) (tg := 71) (by decide +kernel) rfl rfl (by decide) (fun _ => ?_) (fun h16 => ?_)
  · refine sim_seg [(.iload_n 1, 0, 0, 0), (.bipush 99, 0, 0, 99)] [] (q := 74) (L' := [some (.int b0), some (.int b1)]) (st' := [.int (J 99), .int b1]) (v1 := v) (by decide +kernel) rfl trivial ?_
    refine sc_ri (pc3 := 77) (cf_S (idx := 314) [.int b1, .int (J 99)] m_gm_isUpTo ⟨by decide, by decide⟩ (List.mem_of_getElem? (i := 1972) (by decide +kernel)) rfl (Nat.le_of_ble_eq_true rfl) (by decide +kernel) (Nat.le_of_ble_eq_true rfl) rfl) (ok_gm_isUpTo b1 (J 99) S v) rfl (fun x14 => ?_)
    refine sim_grd fun h15 => ?_
    exact sim_iret (by decide +kernel) rfl h15 rfl
  refine sim_tdef (df := 77) (lw := 1) (hg := 6) (offs := #[39, 46, 77, 52, 61, 70]) (len := 39) (tg := 78) (by decide +kernel) rfl (by have eh3 := ne_J h3 (by decide) (by decide); have eh6 := ne_J h6 (by decide) (by decide); have eh7 := ne_J h7 (by decide) (by decide); have eh10 := ne_J h10 (by decide) (by decide); have eh13 := ne_J h13 (by decide) (by decide); have eh16 := ne_J h16 (by decide) (by decide); omega) ?_
  refine sim_seg [(.iconst 0, 0, 0, 0)] [] (q := 79) (L' := [some (.int b0), some (.int b1)]) (st' := [.int (J 0)]) (v1 := v) (by decide +kernel) rfl trivial ?_
  exact sim_iret (by decide +kernel) rfl (by decide) rfl
def B_gm_set : bd := (⟨"GateCounterModel", "set", "(II)I"⟩, prog_8_method_120_code, 4, (some .int), [], 6, 3)
theorem m_gm_set : mV B_gm_set 6 2 := ⟨⟨⟨by decide +kernel, Or.inl rfl⟩, rfl, (List.mem_of_getElem? (i := 2175) (by decide +kernel)), by decide +kernel, (List.mem_of_getElem? (i := 104) (by decide +kernel)), ⟨by decide, by decide⟩, by decide⟩, rfl, (by unfold nar; decide +kernel), (List.mem_of_getElem? (i := 2173) (by decide +kernel)), rfl, (List.mem_of_getElem? (i := 2174) (by decide +kernel))⟩
noncomputable def K_gm_set_19 (N : Nat)  (S : shp) (v : vl) (p0 : Nat) (p1 : Int32) (p2 : Int32) (s0 : Nat) (s1 : Int32) : Option (Int32 × vl) :=
  grd (kin S s0 = some (0, 6)) <| (F_gm_fails s0 s1 (J 1) S v).bind fun (x5, w6) => (if x5 = (J 0) then grd (kin S p0 = some (0, 6)) <| (F_gm_remembers N p0 S w6).bind fun w8 => (gr S p0 0).bind fun r9 => grd (kin S r9 = some (1, 199)) <| grd (vp_in ((J 1) + p1) (alen S r9)) <| lt (gi w8 r9 (Int32.toNatClampNeg ((J 1) + p1))) fun x13 => lt (si w8 r9 (Int32.toNatClampNeg ((J 1) + p1)) p2) fun w14 => some ((x13, w14)) else some (((J 0), w6)))
theorem sK_gm_set_19 (N : Nat)   (S : shp) (v : vl) (p0 : Nat) (p1 : Int32) (p2 : Int32) (s0 : Nat) (s1 : Int32) : SimK B_gm_set 19 [some (.ref p0), some (.int p1), some (.int p2), none] [.int s1, .ref s0] S v (K_gm_set_19 N  S v p0 p1 p2 s0 s1) (ρpi S) := by
  unfold K_gm_set_19
  refine sim_seg [(.iconst 1, 0, 0, 1)] [] (q := 20) (L' := [some (.ref p0), some (.int p1), some (.int p2), none]) (st' := [.int (J 1), .int s1, .ref s0]) (v1 := v) (by decide +kernel) rfl trivial ?_
  refine sim_grd fun h4 => ?_
  refine sc_pi (pc3 := 23) (cf_V (idx := 279) (ci := 6) [.int s1, .int (J 1)] m_gm_fails (by decide) ⟨by decide, by decide⟩ (List.mem_of_getElem? (i := 1827) (by decide +kernel)) rfl (Nat.le_of_ble_eq_true rfl) h4 (by decide +kernel) (Nat.le_of_ble_eq_true rfl) rfl) (ok_gm_fails s0 s1 (J 1) S v) rfl (fun x5 w6 => ?_)
  refine sim_eq0 (o := 5) (tg := 28) (f := 26) (by decide +kernel) rfl rfl (fun _ => ?_) (fun _ => ?_)
  · refine sim_seg [(.aload_n 0, 0, 0, 0)] [] (q := 29) (L' := [some (.ref p0), some (.int p1), some (.int p2), none]) (st' := [.ref p0]) (v1 := w6) (by decide +kernel) rfl trivial ?_
    refine sim_grd fun h7 => ?_
    refine sc_pv (pc3 := 32) (cf_V (idx := 337) (ci := 6) [] m_gm_remembers (by decide) ⟨by decide, by decide⟩ (List.mem_of_getElem? (i := 2116) (by decide +kernel)) rfl (Nat.le_of_ble_eq_true rfl) h7 (by decide +kernel) (Nat.le_of_ble_eq_true rfl) rfl) (ok_gm_remembers N p0 S w6) rfl (fun w8 => ?_)
    refine sim_bind fun r9 h10 => ?_
    refine sim_grd fun h11 => ?_
    refine sim_grd fun h12 => ?_
    refine sim_seg [(.aload_n 0, 0, 0, 0), (.getfield 7, 6, 0, 0), (.iconst 1, 0, 0, 1), (.iload_n 1, 0, 0, 0), (.iadd, 0, 0, 0), (.iaload, 0, 0, 0), (.istore_n 3, 0, 0, 0)] [r9] (q := 41) (L' := [some (.ref p0), some (.int p1), some (.int p2), some (.int (gi w8 r9 (Int32.toNatClampNeg ((J 1) + p1))))]) (st' := []) (v1 := w8) (by decide +kernel) rfl ⟨⟨h7, h10⟩, ⟨(Or.inl (kin_alen h11)), h12⟩, trivial⟩ ?_
    refine sim_nm (gi w8 r9 (Int32.toNatClampNeg ((J 1) + p1))) (fun x13 => [some (.ref p0), some (.int p1), some (.int p2), some (.int x13)]) (fun x13 => []) (fun x13 => ?_) rfl rfl
    refine sim_seg [(.aload_n 0, 0, 0, 0), (.getfield 7, 6, 0, 0), (.iconst 1, 0, 0, 1), (.iload_n 1, 0, 0, 0), (.iadd, 0, 0, 0), (.iload_n 2, 0, 0, 0), (.iastore, 0, 0, 0), (.iload_n 3, 0, 0, 0)] [r9] (q := 51) (L' := [some (.ref p0), some (.int p1), some (.int p2), some (.int x13)]) (st' := [.int x13]) (v1 := (si w8 r9 (Int32.toNatClampNeg ((J 1) + p1)) p2)) (by decide +kernel) rfl ⟨⟨h7, h10⟩, ⟨(kin_alen h11), h12⟩, trivial⟩ ?_
    refine sim_lt (x := (si w8 r9 (Int32.toNatClampNeg ((J 1) + p1)) p2)) ?_
    generalize (si w8 r9 (Int32.toNatClampNeg ((J 1) + p1)) p2) = w14
    exact sim_iret (by decide +kernel) rfl rfl rfl
  · refine sim_seg [(.iconst 0, 0, 0, 0)] [] (q := 27) (L' := [some (.ref p0), some (.int p1), some (.int p2), none]) (st' := [.int (J 0)]) (v1 := w6) (by decide +kernel) rfl trivial ?_
    exact sim_iret (by decide +kernel) rfl rfl rfl
noncomputable def F_gm_set (N : Nat) (a0 : Nat) (b1 : Int32) (b2 : Int32) (S : shp) (v : vl) : Option (Int32 × vl) :=
  grd (kin S a0 = some (0, 6)) <| lt (si v a0 10 (J 0)) fun w2 => (F_gm_mayBe b1 b2 S w2).bind fun x3 => (if x3 = (J 0) then K_gm_set_19 N  S w2 a0 b1 b2 a0 (J 1) else K_gm_set_19 N  S w2 a0 b1 b2 a0 (J 0))
theorem ok_gm_set (N : Nat) (a0 : Nat) (b1 : Int32) (b2 : Int32) (S : shp) (v : vl) : SimK B_gm_set 0 (entB (bN B_gm_set) [.ref a0, .int b1, .int b2]) [] S v (F_gm_set N a0 b1 b2 S v) (ρpi S) := by
  show SimK B_gm_set 0 [some (.ref a0), some (.int b1), some (.int b2), none] [] S v (F_gm_set N a0 b1 b2 S v) _
  unfold F_gm_set
  refine sim_grd fun h1 => ?_
  refine sim_seg [(.aload_n 0, 0, 0, 0), (.iconst 0, 0, 0, 0), (.putfield 38, 6, 10, 0), (.aload_n 0, 0, 0, 0), (.iload_n 1, 0, 0, 0), (.iload_n 2, 0, 0, 0)] [] (q := 8) (L' := [some (.ref a0), some (.int b1), some (.int b2), none]) (st' := [.int b2, .int b1, .ref a0]) (v1 := (si v a0 10 (J 0))) (by decide +kernel) rfl ⟨h1, trivial⟩ ?_
  refine sim_lt (x := (si v a0 10 (J 0))) ?_
  generalize (si v a0 10 (J 0)) = w2
  refine sc_ri (pc3 := 11) (cf_S (idx := 356) [.int b1, .int b2] m_gm_mayBe ⟨by decide, by decide⟩ (List.mem_of_getElem? (i := 2176) (by decide +kernel)) rfl (Nat.le_of_ble_eq_true rfl) (by decide +kernel) (Nat.le_of_ble_eq_true rfl) rfl) (ok_gm_mayBe b1 b2 S w2) rfl (fun x3 => ?_)
  refine sim_ne0 (o := 7) (tg := 18) (f := 14) (by decide +kernel) rfl rfl (fun _ => ?_) (fun _ => ?_)
  · refine sim_seg [(.iconst 1, 0, 0, 1), (.goto 4, 0, 0, 0)] [] (q := 19) (L' := [some (.ref a0), some (.int b1), some (.int b2), none]) (st' := [.int (J 1), .ref a0]) (v1 := w2) (by decide +kernel) rfl trivial ?_
    exact sK_gm_set_19 N S w2 a0 b1 b2 a0 (J 1)
  · refine sim_seg [(.iconst 0, 0, 0, 0)] [] (q := 19) (L' := [some (.ref a0), some (.int b1), some (.int b2), none]) (st' := [.int (J 0), .ref a0]) (v1 := w2) (by decide +kernel) rfl trivial ?_
    exact sK_gm_set_19 N S w2 a0 b1 b2 a0 (J 0)
def B_gm_addSegment : bd := (⟨"GateCounterModel", "addSegment", "(II)I"⟩, prog_8_method_121_code, 4, (some .int), [], 6, 3)
theorem m_gm_addSegment : mV B_gm_addSegment 6 2 := ⟨⟨⟨by decide +kernel, Or.inl rfl⟩, rfl, (List.mem_of_getElem? (i := 2182) (by decide +kernel)), by decide +kernel, (List.mem_of_getElem? (i := 104) (by decide +kernel)), ⟨by decide, by decide⟩, by decide⟩, rfl, (by unfold nar; decide +kernel), (List.mem_of_getElem? (i := 2180) (by decide +kernel)), rfl, (List.mem_of_getElem? (i := 2181) (by decide +kernel))⟩
noncomputable def K_gm_addSegment_82 (N : Nat)  (S : shp) (v : vl) (p0 : Nat) (p1 : Int32) (p2 : Int32) (s0 : Nat) (s1 : Int32) : Option (Int32 × vl) :=
  grd (kin S s0 = some (0, 6)) <| (F_gm_fails s0 s1 (J 2) S v).bind fun (x17, w18) => (if x17 = (J 0) then grd (kin S p0 = some (0, 6)) <| (F_gm_remembers N p0 S w18).bind fun w20 => (F_gm_puts p0 p1 p2 S w20).bind fun w21 => (gr S p0 0).bind fun r22 => grd (kin S r22 = some (1, 199)) <| some ((((gi w21 r22 19) - (J 1)), w21)) else some (((J 0), w18)))
theorem sK_gm_addSegment_82 (N : Nat)   (S : shp) (v : vl) (p0 : Nat) (p1 : Int32) (p2 : Int32) (s0 : Nat) (s1 : Int32) : SimK B_gm_addSegment 82 [some (.ref p0), some (.int p1), some (.int p2), none] [.int s1, .ref s0] S v (K_gm_addSegment_82 N  S v p0 p1 p2 s0 s1) (ρpi S) := by
  unfold K_gm_addSegment_82
  refine sim_seg [(.iconst 2, 0, 0, 2)] [] (q := 83) (L' := [some (.ref p0), some (.int p1), some (.int p2), none]) (st' := [.int (J 2), .int s1, .ref s0]) (v1 := v) (by decide +kernel) rfl trivial ?_
  refine sim_grd fun h16 => ?_
  refine sc_pi (pc3 := 86) (cf_V (idx := 279) (ci := 6) [.int s1, .int (J 2)] m_gm_fails (by decide) ⟨by decide, by decide⟩ (List.mem_of_getElem? (i := 1827) (by decide +kernel)) rfl (Nat.le_of_ble_eq_true rfl) h16 (by decide +kernel) (Nat.le_of_ble_eq_true rfl) rfl) (ok_gm_fails s0 s1 (J 2) S v) rfl (fun x17 w18 => ?_)
  refine sim_eq0 (o := 5) (tg := 91) (f := 89) (by decide +kernel) rfl rfl (fun _ => ?_) (fun _ => ?_)
  · refine sim_seg [(.aload_n 0, 0, 0, 0)] [] (q := 92) (L' := [some (.ref p0), some (.int p1), some (.int p2), none]) (st' := [.ref p0]) (v1 := w18) (by decide +kernel) rfl trivial ?_
    refine sim_grd fun h19 => ?_
    refine sc_pv (pc3 := 95) (cf_V (idx := 337) (ci := 6) [] m_gm_remembers (by decide) ⟨by decide, by decide⟩ (List.mem_of_getElem? (i := 2116) (by decide +kernel)) rfl (Nat.le_of_ble_eq_true rfl) h19 (by decide +kernel) (Nat.le_of_ble_eq_true rfl) rfl) (ok_gm_remembers N p0 S w18) rfl (fun w20 => ?_)
    refine sim_seg [(.aload_n 0, 0, 0, 0), (.iload_n 1, 0, 0, 0), (.iload_n 2, 0, 0, 0)] [] (q := 98) (L' := [some (.ref p0), some (.int p1), some (.int p2), none]) (st' := [.int p2, .int p1, .ref p0]) (v1 := w20) (by decide +kernel) rfl trivial ?_
    refine sc_pv (pc3 := 101) (cf_V (idx := 239) (ci := 6) [.int p1, .int p2] m_gm_puts (by decide) ⟨by decide, by decide⟩ (List.mem_of_getElem? (i := 1807) (by decide +kernel)) rfl (Nat.le_of_ble_eq_true rfl) h19 (by decide +kernel) (Nat.le_of_ble_eq_true rfl) rfl) (ok_gm_puts p0 p1 p2 S w20) rfl (fun w21 => ?_)
    refine sim_bind fun r22 h23 => ?_
    refine sim_grd fun h24 => ?_
    refine sim_seg [(.aload_n 0, 0, 0, 0), (.getfield 7, 6, 0, 0), (.bipush 19, 0, 0, 19), (.iaload, 0, 0, 0), (.iconst 1, 0, 0, 1), (.isub, 0, 0, 0)] [r22] (q := 110) (L' := [some (.ref p0), some (.int p1), some (.int p2), none]) (st' := [.int ((gi w21 r22 19) - (J 1))]) (v1 := w21) (by decide +kernel) rfl ⟨⟨h19, h23⟩, ⟨(Or.inl (kin_alen h24)), (vin_J h24 (by unfold vp_in; decide))⟩, trivial⟩ ?_
    exact sim_iret (by decide +kernel) rfl rfl rfl
  · refine sim_seg [(.iconst 0, 0, 0, 0)] [] (q := 90) (L' := [some (.ref p0), some (.int p1), some (.int p2), none]) (st' := [.int (J 0)]) (v1 := w18) (by decide +kernel) rfl trivial ?_
    exact sim_iret (by decide +kernel) rfl rfl rfl
noncomputable def K_gm_addSegment_57 (N : Nat)  (S : shp) (v : vl) (p0 : Nat) (p1 : Int32) (p2 : Int32) (s0 : Nat) (s1 : Int32) : Option (Int32 × vl) :=
  grd (kin S s0 = some (0, 6)) <| (F_gm_fails s0 s1 (J 1) S v).bind fun (x10, w11) => (if x10 = (J 0) then grd (kin S p0 = some (0, 6)) <| (gr S p0 0).bind fun r13 => grd (kin S r13 = some (1, 199)) <| (if (gi w11 r13 19) = (J 8) then K_gm_addSegment_82 N  S w11 p0 p1 p2 p0 (J 1) else K_gm_addSegment_82 N  S w11 p0 p1 p2 p0 (J 0)) else some (((J 0), w11)))
theorem sK_gm_addSegment_57 (N : Nat)   (S : shp) (v : vl) (p0 : Nat) (p1 : Int32) (p2 : Int32) (s0 : Nat) (s1 : Int32) : SimK B_gm_addSegment 57 [some (.ref p0), some (.int p1), some (.int p2), none] [.int s1, .ref s0] S v (K_gm_addSegment_57 N  S v p0 p1 p2 s0 s1) (ρpi S) := by
  unfold K_gm_addSegment_57
  refine sim_seg [(.iconst 1, 0, 0, 1)] [] (q := 58) (L' := [some (.ref p0), some (.int p1), some (.int p2), none]) (st' := [.int (J 1), .int s1, .ref s0]) (v1 := v) (by decide +kernel) rfl trivial ?_
  refine sim_grd fun h9 => ?_
  refine sc_pi (pc3 := 61) (cf_V (idx := 279) (ci := 6) [.int s1, .int (J 1)] m_gm_fails (by decide) ⟨by decide, by decide⟩ (List.mem_of_getElem? (i := 1827) (by decide +kernel)) rfl (Nat.le_of_ble_eq_true rfl) h9 (by decide +kernel) (Nat.le_of_ble_eq_true rfl) rfl) (ok_gm_fails s0 s1 (J 1) S v) rfl (fun x10 w11 => ?_)
  refine sim_ne0 (o := 28) (tg := 89) (f := 64) (by decide +kernel) rfl rfl (fun _ => ?_) (fun _ => ?_)
  · refine sim_grd fun h12 => ?_
    refine sim_bind fun r13 h14 => ?_
    refine sim_grd fun h15 => ?_
    refine sim_seg [(.aload_n 0, 0, 0, 0), (.aload_n 0, 0, 0, 0), (.getfield 7, 6, 0, 0), (.bipush 19, 0, 0, 19), (.iaload, 0, 0, 0), (.bipush 8, 0, 0, 8)] [r13] (q := 74) (L' := [some (.ref p0), some (.int p1), some (.int p2), none]) (st' := [.int (J 8), .int (gi w11 r13 19), .ref p0]) (v1 := w11) (by decide +kernel) rfl ⟨⟨h12, h14⟩, ⟨(Or.inl (kin_alen h15)), (vin_J h15 (by unfold vp_in; decide))⟩, trivial⟩ ?_
    refine sim_ne (o := 7) (tg := 81) (f := 77) (by decide +kernel) rfl rfl (fun _ => ?_) (fun _ => ?_)
    · refine sim_seg [(.iconst 1, 0, 0, 1), (.goto 4, 0, 0, 0)] [] (q := 82) (L' := [some (.ref p0), some (.int p1), some (.int p2), none]) (st' := [.int (J 1), .ref p0]) (v1 := w11) (by decide +kernel) rfl trivial ?_
      exact sK_gm_addSegment_82 N S w11 p0 p1 p2 p0 (J 1)
    · refine sim_seg [(.iconst 0, 0, 0, 0)] [] (q := 82) (L' := [some (.ref p0), some (.int p1), some (.int p2), none]) (st' := [.int (J 0), .ref p0]) (v1 := w11) (by decide +kernel) rfl trivial ?_
      exact sK_gm_addSegment_82 N S w11 p0 p1 p2 p0 (J 0)
  · refine sim_seg [(.iconst 0, 0, 0, 0)] [] (q := 90) (L' := [some (.ref p0), some (.int p1), some (.int p2), none]) (st' := [.int (J 0)]) (v1 := w11) (by decide +kernel) rfl trivial ?_
    exact sim_iret (by decide +kernel) rfl rfl rfl
noncomputable def F_gm_addSegment (N : Nat) (a0 : Nat) (b1 : Int32) (b2 : Int32) (S : shp) (v : vl) : Option (Int32 × vl) :=
  grd (kin S a0 = some (0, 6)) <| lt (si v a0 10 (J 0)) fun w2 => (gr S a0 0).bind fun r3 => grd (kin S r3 = some (1, 199)) <| (F_gm_greatestTime a0 S w2).bind fun x6 => (F_ma_max (gi w2 r3 0) x6 S w2).bind fun x7 => (F_gm_inRange b1 (x7 + (J 1)) (J 1999999) S w2).bind fun x8 => (if x8 = (J 0) then K_gm_addSegment_57 N  S w2 a0 b1 b2 a0 (J 1) else (F_gm_inRange b2 (J 0) (J 9999) S w2).bind fun x25 => (if x25 = (J 0) then K_gm_addSegment_57 N  S w2 a0 b1 b2 a0 (J 1) else K_gm_addSegment_57 N  S w2 a0 b1 b2 a0 (J 0)))
theorem ok_gm_addSegment (N : Nat) (a0 : Nat) (b1 : Int32) (b2 : Int32) (S : shp) (v : vl) : SimK B_gm_addSegment 0 (entB (bN B_gm_addSegment) [.ref a0, .int b1, .int b2]) [] S v (F_gm_addSegment N a0 b1 b2 S v) (ρpi S) := by
  show SimK B_gm_addSegment 0 [some (.ref a0), some (.int b1), some (.int b2), none] [] S v (F_gm_addSegment N a0 b1 b2 S v) _
  unfold F_gm_addSegment
  refine sim_grd fun h1 => ?_
  refine sim_seg [(.aload_n 0, 0, 0, 0), (.iconst 0, 0, 0, 0), (.putfield 38, 6, 10, 0), (.iload_n 1, 0, 0, 0), (.aload_n 0, 0, 0, 0)] [] (q := 7) (L' := [some (.ref a0), some (.int b1), some (.int b2), none]) (st' := [.ref a0, .int b1]) (v1 := (si v a0 10 (J 0))) (by decide +kernel) rfl ⟨h1, trivial⟩ ?_
  refine sim_lt (x := (si v a0 10 (J 0))) ?_
  generalize (si v a0 10 (J 0)) = w2
  refine sim_bind fun r3 h4 => ?_
  refine sim_grd fun h5 => ?_
  refine sim_seg [(.getfield 7, 6, 0, 0), (.iconst 0, 0, 0, 0), (.iaload, 0, 0, 0), (.aload_n 0, 0, 0, 0)] [r3] (q := 13) (L' := [some (.ref a0), some (.int b1), some (.int b2), none]) (st' := [.ref a0, .int (gi w2 r3 0), .int b1]) (v1 := w2) (by decide +kernel) rfl ⟨⟨h1, h4⟩, ⟨(Or.inl (kin_alen h5)), (vin_J h5 (by unfold vp_in; decide))⟩, trivial⟩ ?_
  refine sc_ri (pc3 := 16) (cf_V (idx := 236) (ci := 6) [] m_gm_greatestTime (by decide) ⟨by decide, by decide⟩ (List.mem_of_getElem? (i := 1799) (by decide +kernel)) rfl (Nat.le_of_ble_eq_true rfl) h1 (by decide +kernel) (Nat.le_of_ble_eq_true rfl) rfl) (ok_gm_greatestTime a0 S w2) rfl (fun x6 => ?_)
  refine sc_ri (pc3 := 19) (cf_S (idx := 66) [.int (gi w2 r3 0), .int x6] m_ma_max ⟨by decide, by decide⟩ (List.mem_of_getElem? (i := 1917) (by decide +kernel)) rfl (Nat.le_of_ble_eq_true rfl) (by decide +kernel) (Nat.le_of_ble_eq_true rfl) rfl) (ok_ma_max (gi w2 r3 0) x6 S w2) rfl (fun x7 => ?_)
  refine sim_seg [(.iconst 1, 0, 0, 1), (.iadd, 0, 0, 0), (.ldc_w 359, 0, 0, 1999999)] [] (q := 24) (L' := [some (.ref a0), some (.int b1), some (.int b2), none]) (st' := [.int (J 1999999), .int (x7 + (J 1)), .int b1]) (v1 := w2) (by decide +kernel) rfl trivial ?_
  refine sc_ri (pc3 := 27) (cf_S (idx := 41) [.int b1, .int (x7 + (J 1)), .int (J 1999999)] m_gm_inRange ⟨by decide, by decide⟩ (List.mem_of_getElem? (i := 1712) (by decide +kernel)) rfl (Nat.le_of_ble_eq_true rfl) (by decide +kernel) (Nat.le_of_ble_eq_true rfl) rfl) (ok_gm_inRange b1 (x7 + (J 1)) (J 1999999) S w2) rfl (fun x8 => ?_)
  refine sim_eq0 (o := 18) (tg := 45) (f := 30) (by decide +kernel) rfl rfl (fun _ => ?_) (fun _ => ?_)
  · refine sim_seg [(.iconst 0, 0, 0, 0), (.istore_n 3, 0, 0, 0)] [] (q := 47) (L' := [some (.ref a0), some (.int b1), some (.int b2), some (.int (J 0))]) (st' := []) (v1 := w2) (by decide +kernel) rfl trivial ?_
    refine sim_seg [(.aload_n 0, 0, 0, 0), (.iload_n 3, 0, 0, 0)] [] (q := 49) (L' := [some (.ref a0), some (.int b1), some (.int b2), some (.int (J 0))]) (st' := [.int (J 0), .ref a0]) (v1 := w2) (by decide +kernel) rfl trivial ?_
    refine sim_ifT (c := (J 0) = (J 0)) (by decide) (sim_ne0 (o := 7) (tg := 56) (f := 52) (by decide +kernel) rfl rfl (fun _ => ?_) (fun _ => sim_none))
    refine sim_seg [(.iconst 1, 0, 0, 1), (.goto 4, 0, 0, 0)] [] (q := 57) (L' := [some (.ref a0), some (.int b1), some (.int b2), some (.int (J 0))]) (st' := [.int (J 1), .ref a0]) (v1 := w2) (by decide +kernel) rfl trivial ?_
    exact sim_wk (L0 := [some (.ref a0), some (.int b1), some (.int b2), none]) ⟨rfl, rfl, rfl, trivial⟩ (sK_gm_addSegment_57 N S w2 a0 b1 b2 a0 (J 1))
  · refine sim_seg [(.iload_n 2, 0, 0, 0), (.iconst 0, 0, 0, 0), (.sipush 9999, 0, 0, 9999)] [] (q := 35) (L' := [some (.ref a0), some (.int b1), some (.int b2), none]) (st' := [.int (J 9999), .int (J 0), .int b2]) (v1 := w2) (by decide +kernel) rfl trivial ?_
    refine sc_ri (pc3 := 38) (cf_S (idx := 41) [.int b2, .int (J 0), .int (J 9999)] m_gm_inRange ⟨by decide, by decide⟩ (List.mem_of_getElem? (i := 1712) (by decide +kernel)) rfl (Nat.le_of_ble_eq_true rfl) (by decide +kernel) (Nat.le_of_ble_eq_true rfl) rfl) (ok_gm_inRange b2 (J 0) (J 9999) S w2) rfl (fun x25 => ?_)
    refine sim_eq0 (o := 7) (tg := 45) (f := 41) (by decide +kernel) rfl rfl (fun _ => ?_) (fun _ => ?_)
    · refine sim_seg [(.iconst 0, 0, 0, 0), (.istore_n 3, 0, 0, 0)] [] (q := 47) (L' := [some (.ref a0), some (.int b1), some (.int b2), some (.int (J 0))]) (st' := []) (v1 := w2) (by decide +kernel) rfl trivial ?_
      refine sim_seg [(.aload_n 0, 0, 0, 0), (.iload_n 3, 0, 0, 0)] [] (q := 49) (L' := [some (.ref a0), some (.int b1), some (.int b2), some (.int (J 0))]) (st' := [.int (J 0), .ref a0]) (v1 := w2) (by decide +kernel) rfl trivial ?_
      refine sim_ifT (c := (J 0) = (J 0)) (by decide) (sim_ne0 (o := 7) (tg := 56) (f := 52) (by decide +kernel) rfl rfl (fun _ => ?_) (fun _ => sim_none))
      refine sim_seg [(.iconst 1, 0, 0, 1), (.goto 4, 0, 0, 0)] [] (q := 57) (L' := [some (.ref a0), some (.int b1), some (.int b2), some (.int (J 0))]) (st' := [.int (J 1), .ref a0]) (v1 := w2) (by decide +kernel) rfl trivial ?_
      exact sim_wk (L0 := [some (.ref a0), some (.int b1), some (.int b2), none]) ⟨rfl, rfl, rfl, trivial⟩ (sK_gm_addSegment_57 N S w2 a0 b1 b2 a0 (J 1))
    · refine sim_seg [(.iconst 1, 0, 0, 1), (.goto 4, 0, 0, 0), (.istore_n 3, 0, 0, 0)] [] (q := 47) (L' := [some (.ref a0), some (.int b1), some (.int b2), some (.int (J 1))]) (st' := []) (v1 := w2) (by decide +kernel) rfl trivial ?_
      refine sim_seg [(.aload_n 0, 0, 0, 0), (.iload_n 3, 0, 0, 0)] [] (q := 49) (L' := [some (.ref a0), some (.int b1), some (.int b2), some (.int (J 1))]) (st' := [.int (J 1), .ref a0]) (v1 := w2) (by decide +kernel) rfl trivial ?_
      refine sim_ifF (c := (J 1) = (J 0)) (by decide) (sim_ne0 (o := 7) (tg := 56) (f := 52) (by decide +kernel) rfl rfl (fun _ => sim_none) (fun _ => ?_))
      refine sim_seg [(.iconst 0, 0, 0, 0)] [] (q := 57) (L' := [some (.ref a0), some (.int b1), some (.int b2), some (.int (J 1))]) (st' := [.int (J 0), .ref a0]) (v1 := w2) (by decide +kernel) rfl trivial ?_
      exact sim_wk (L0 := [some (.ref a0), some (.int b1), some (.int b2), none]) ⟨rfl, rfl, rfl, trivial⟩ (sK_gm_addSegment_57 N S w2 a0 b1 b2 a0 (J 0))
