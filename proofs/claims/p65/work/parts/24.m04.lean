/-! Methods: st_forget, st_keep, st_toClockEdge, st_valueOf, st_measureByGate, gc_gate, gc_found, gc_require, gc_requireWithin, gc_measurement, gc_reason, ck_timeOfAging, ck_passTo, sg_reasonForNoEnd, sg_timeAfter, sg_timeOfOutput, sg_passTo, st_passTo, st_measureByPeriod, gc_period, gc_run, gc_setPrescale, gc_maySet. -/
def B_st_forget : bd := (⟨"GateCounter$State", "forget", "(I)V"⟩, prog_6_method_11_code, 3, none, [], 4, 1)
theorem m_st_forget : mV B_st_forget 4 1 := ⟨⟨⟨by decide +kernel, Or.inl rfl⟩, rfl, (List.mem_of_getElem? (i := 998) (by decide +kernel)), by decide +kernel, (List.mem_of_getElem? (i := 59) (by decide +kernel)), ⟨by decide, by decide⟩, by decide⟩, rfl, (by unfold nar; decide +kernel), (List.mem_of_getElem? (i := 996) (by decide +kernel)), rfl, (List.mem_of_getElem? (i := 997) (by decide +kernel))⟩
noncomputable def Y_st_forget_6 (N : Nat)  (i6 : shp → vl → Nat → Int32 → Option (shp × vl))  (S : shp) (v : vl) (p0 : Nat) (p2 : Int32) : Option (shp × vl) :=
  grd (kin S p0 = some (0, 4)) <| (if p2 < ((gi v p0 5) - (J 1)) then (gr S p0 8).bind fun r3 => grd (kin S r3 = some (5, 20)) <| grd (vp_in (p2 + (J 1)) (alen S r3)) <| (gr S r3 (Int32.toNatClampNeg (p2 + (J 1)))).bind fun r7 => grd (vp_in p2 (alen S r3)) <| grd (kin S r7 = some (0, 1)) <| lt (sr S r3 (Int32.toNatClampNeg p2) (some r7)) fun S11 => i6 S11 v p0 (p2 + (J 1)) else lt (si v p0 5 ((gi v p0 5) - (J 1))) fun w13 => some ((S, w13)))
noncomputable def K_st_forget_6 (N : Nat)  (n : Nat)  : shp → vl → Nat → Int32 → Option (shp × vl) :=
  Nat.rec (motive := fun _ => shp → vl → Nat → Int32 → Option (shp × vl)) (fun _ _ _ _ => none) (fun _ i => Y_st_forget_6 N  i ) n
theorem sY_st_forget_6 (N : Nat)  (i6 : shp → vl → Nat → Int32 → Option (shp × vl))   (j6 : ∀ (S : shp) (v : vl) (p0 : Nat) (p2 : Int32), SimK B_st_forget 6 [some (.ref p0), none, some (.int p2)] [] S v (i6 S v p0 p2) (ρgv)) (S : shp) (v : vl) (p0 : Nat) (p2 : Int32) : SimK B_st_forget 6 [some (.ref p0), none, some (.int p2)] [] S v (Y_st_forget_6 N  i6  S v p0 p2) (ρgv) := by
  unfold Y_st_forget_6
  refine sim_grd fun h2 => ?_
  refine sim_seg [(.iload_n 2, 0, 0, 0), (.aload_n 0, 0, 0, 0), (.getfield 50, 4, 5, 0), (.iconst 1, 0, 0, 1), (.isub, 0, 0, 0)] [] (q := 13) (L' := [some (.ref p0), none, some (.int p2)]) (st' := [.int ((gi v p0 5) - (J 1)), .int p2]) (v1 := v) (by decide +kernel) rfl ⟨h2, trivial⟩ ?_
  refine sim_ge (o := 23) (tg := 36) (f := 16) (by decide +kernel) rfl rfl (fun _ => ?_) (fun _ => ?_)
  · refine sim_bind fun r3 h4 => ?_
    refine sim_grd fun h5 => ?_
    refine sim_grd fun h6 => ?_
    refine sim_bind fun r7 h8 => ?_
    refine sim_seg [(.aload_n 0, 0, 0, 0), (.getfield 27, 4, 8, 0), (.iload_n 2, 0, 0, 0), (.aload_n 0, 0, 0, 0), (.getfield 27, 4, 8, 0), (.iload_n 2, 0, 0, 0), (.iconst 1, 0, 0, 1), (.iadd, 0, 0, 0), (.aaload, 0, 0, 0)] [r3, r3, r7] (q := 29) (L' := [some (.ref p0), none, some (.int p2)]) (st' := [.ref r7, .int p2, .ref r3]) (v1 := v) (by decide +kernel) rfl ⟨⟨h2, h4⟩, ⟨h2, h4⟩, ⟨Or.inr (kin_alen h5), h6, h8⟩, trivial⟩ ?_
    refine sim_grd fun h9 => ?_
    refine sim_grd fun h10 => ?_
    refine sim_aast (ty := 4) (ci := 1) (pc3 := 30) (Or.inr ⟨rfl, rfl⟩) (by decide +kernel) (kin_alen h5) h9 h10 rfl (fun S11 h12 => ?_)
    refine sim_seg [(.iinc 2 1, 0, 0, 1)] [] (q := 33) (L' := [some (.ref p0), none, some (.int (p2 + (J 1)))]) (st' := []) (v1 := v) (by decide +kernel) rfl trivial ?_
    refine sim_seg [(.goto (-27), 0, 0, 0)] [] (q := 6) (L' := [some (.ref p0), none, some (.int (p2 + (J 1)))]) (st' := []) (v1 := v) (by decide +kernel) rfl trivial ?_
    exact j6 S11 v p0 (p2 + (J 1))
  · refine sim_seg [(.aload_n 0, 0, 0, 0), (.dup, 0, 0, 0), (.getfield 50, 4, 5, 0), (.iconst 1, 0, 0, 1), (.isub, 0, 0, 0), (.putfield 50, 4, 5, 0)] [] (q := 46) (L' := [some (.ref p0), none, some (.int p2)]) (st' := []) (v1 := (si v p0 5 ((gi v p0 5) - (J 1)))) (by decide +kernel) rfl ⟨h2, h2, trivial⟩ ?_
    refine sim_lt (x := (si v p0 5 ((gi v p0 5) - (J 1)))) ?_
    generalize (si v p0 5 ((gi v p0 5) - (J 1))) = w13
    exact sim_vret (by decide +kernel) rfl rfl
theorem sR_st_forget_6 (N : Nat)    (n : Nat) : ∀ (S : shp) (v : vl) (p0 : Nat) (p2 : Int32), SimK B_st_forget 6 [some (.ref p0), none, some (.int p2)] [] S v (K_st_forget_6 N  n  S v p0 p2) (ρgv) := by
  induction n with
  | zero => intro S v p0 p2; exact sim_none
  | succ k ih => intro S v p0 p2; exact sY_st_forget_6 N   _   ih S v p0 p2
theorem sK_st_forget_6 (N : Nat)   (n : Nat) (S : shp) (v : vl) (p0 : Nat) (p2 : Int32) : SimK B_st_forget 6 [some (.ref p0), none, some (.int p2)] [] S v (K_st_forget_6 N  n  S v p0 p2) (ρgv) := sR_st_forget_6 N    n  S v p0 p2
noncomputable def F_st_forget (N : Nat) (a0 : Nat) (b1 : Int32) (S : shp) (v : vl) : Option (shp × vl) :=
  (F_ma_max (J 0) b1 S v).bind fun x1 => K_st_forget_6 N  N S v a0 x1
theorem ok_st_forget (N : Nat) (a0 : Nat) (b1 : Int32) (S : shp) (v : vl) : SimK B_st_forget 0 (entB (bN B_st_forget) [.ref a0, .int b1]) [] S v (F_st_forget N a0 b1 S v) (ρgv) := by
  show SimK B_st_forget 0 [some (.ref a0), some (.int b1), none] [] S v (F_st_forget N a0 b1 S v) _
  unfold F_st_forget
  refine sim_seg [(.iconst 0, 0, 0, 0), (.iload_n 1, 0, 0, 0)] [] (q := 2) (L' := [some (.ref a0), some (.int b1), none]) (st' := [.int b1, .int (J 0)]) (v1 := v) (by decide +kernel) rfl trivial ?_
  refine sc_ri (pc3 := 5) (cf_S (idx := 130) [.int (J 0), .int b1] m_ma_max ⟨by decide, by decide⟩ (List.mem_of_getElem? (i := 999) (by decide +kernel)) rfl (Nat.le_of_ble_eq_true rfl) (by decide +kernel) (Nat.le_of_ble_eq_true rfl) rfl) (ok_ma_max (J 0) b1 S v) rfl (fun x1 => ?_)
  refine sim_seg [(.istore_n 2, 0, 0, 0)] [] (q := 6) (L' := [some (.ref a0), some (.int b1), some (.int x1)]) (st' := []) (v1 := v) (by decide +kernel) rfl trivial ?_
  exact sim_wk (L0 := [some (.ref a0), none, some (.int x1)]) ⟨rfl, rfl, trivial⟩ (sK_st_forget_6 N N S v a0 x1)
def B_st_keep : bd := (⟨"GateCounter$State", "keep", "(LGateCounter$Measurement;)V"⟩, prog_6_method_10_code, 2, none, [], 4, 2)
theorem m_st_keep : mV B_st_keep 4 1 := ⟨⟨⟨by decide +kernel, Or.inl rfl⟩, rfl, (List.mem_of_getElem? (i := 994) (by decide +kernel)), by decide +kernel, (List.mem_of_getElem? (i := 59) (by decide +kernel)), ⟨by decide, by decide⟩, by decide⟩, rfl, (by unfold nar; decide +kernel), (List.mem_of_getElem? (i := 993) (by decide +kernel)), rfl, (List.mem_of_getElem? (i := 33) (by decide +kernel))⟩
noncomputable def K_st_keep_14 (N : Nat)  (S : shp) (v : vl) (p0 : Nat) (p1 : Nat) : Option (shp × vl) :=
  grd (kin S p0 = some (0, 4)) <| (gr S p0 8).bind fun r3 => grd (kin S r3 = some (5, 20)) <| grd (vp_in (gi v p0 5) (alen S r3)) <| grd (kin S p1 = some (0, 1)) <| lt (sr S r3 (Int32.toNatClampNeg (gi v p0 5)) (some p1)) fun S8 => lt (si v p0 5 ((gi v p0 5) + (J 1))) fun w10 => lt (si w10 p0 4 ((gi w10 p0 4) + (J 1))) fun w11 => some ((S8, w11))
theorem sK_st_keep_14 (N : Nat)   (S : shp) (v : vl) (p0 : Nat) (p1 : Nat) : SimK B_st_keep 14 [some (.ref p0), some (.ref p1)] [] S v (K_st_keep_14 N  S v p0 p1) (ρgv) := by
  unfold K_st_keep_14
  refine sim_grd fun h2 => ?_
  refine sim_bind fun r3 h4 => ?_
  refine sim_seg [(.aload_n 0, 0, 0, 0), (.getfield 27, 4, 8, 0), (.aload_n 0, 0, 0, 0), (.getfield 50, 4, 5, 0), (.aload_n 1, 0, 0, 0)] [r3] (q := 23) (L' := [some (.ref p0), some (.ref p1)]) (st' := [.ref p1, .int (gi v p0 5), .ref r3]) (v1 := v) (by decide +kernel) rfl ⟨⟨h2, h4⟩, h2, trivial⟩ ?_
  refine sim_grd fun h5 => ?_
  refine sim_grd fun h6 => ?_
  refine sim_grd fun h7 => ?_
  refine sim_aast (ty := 4) (ci := 1) (pc3 := 24) (Or.inr ⟨rfl, rfl⟩) (by decide +kernel) (kin_alen h5) h6 h7 rfl (fun S8 h9 => ?_)
  refine sim_seg [(.aload_n 0, 0, 0, 0), (.dup, 0, 0, 0), (.getfield 50, 4, 5, 0), (.iconst 1, 0, 0, 1), (.iadd, 0, 0, 0), (.putfield 50, 4, 5, 0), (.aload_n 0, 0, 0, 0), (.dup, 0, 0, 0)] [] (q := 36) (L' := [some (.ref p0), some (.ref p1)]) (st' := [.ref p0, .ref p0]) (v1 := (si v p0 5 ((gi v p0 5) + (J 1)))) (by decide +kernel) rfl ⟨(h9.2.2.2.2 _ _ h2), (h9.2.2.2.2 _ _ h2), trivial⟩ ?_
  refine sim_lt (x := (si v p0 5 ((gi v p0 5) + (J 1)))) ?_
  generalize (si v p0 5 ((gi v p0 5) + (J 1))) = w10
  refine sim_seg [(.getfield 47, 4, 4, 0), (.iconst 1, 0, 0, 1), (.iadd, 0, 0, 0), (.putfield 47, 4, 4, 0)] [] (q := 44) (L' := [some (.ref p0), some (.ref p1)]) (st' := []) (v1 := (si w10 p0 4 ((gi w10 p0 4) + (J 1)))) (by decide +kernel) rfl ⟨(h9.2.2.2.2 _ _ h2), (h9.2.2.2.2 _ _ h2), trivial⟩ ?_
  refine sim_lt (x := (si w10 p0 4 ((gi w10 p0 4) + (J 1)))) ?_
  generalize (si w10 p0 4 ((gi w10 p0 4) + (J 1))) = w11
  exact sim_vret (by decide +kernel) rfl rfl
noncomputable def F_st_keep (N : Nat) (a0 : Nat) (a1 : Nat) (S : shp) (v : vl) : Option (shp × vl) :=
  grd (kin S a0 = some (0, 4)) <| (if (gi v a0 5) < (J 20) then K_st_keep_14 N  S v a0 a1 else (F_st_forget N a0 (J 0) S v).bind fun (S12, w13) => K_st_keep_14 N  S12 w13 a0 a1)
theorem ok_st_keep (N : Nat) (a0 : Nat) (a1 : Nat) (S : shp) (v : vl) : SimK B_st_keep 0 (entB (bN B_st_keep) [.ref a0, .ref a1]) [] S v (F_st_keep N a0 a1 S v) (ρgv) := by
  show SimK B_st_keep 0 [some (.ref a0), some (.ref a1)] [] S v (F_st_keep N a0 a1 S v) _
  unfold F_st_keep
  refine sim_grd fun h1 => ?_
  refine sim_seg [(.aload_n 0, 0, 0, 0), (.getfield 50, 4, 5, 0), (.bipush 20, 0, 0, 20)] [] (q := 6) (L' := [some (.ref a0), some (.ref a1)]) (st' := [.int (J 20), .int (gi v a0 5)]) (v1 := v) (by decide +kernel) rfl ⟨h1, trivial⟩ ?_
  refine sim_lt' (o := 8) (tg := 14) (f := 9) (by decide +kernel) rfl rfl (fun _ => ?_) (fun _ => ?_)
  · exact sK_st_keep_14 N S v a0 a1
  · refine sim_seg [(.aload_n 0, 0, 0, 0), (.iconst 0, 0, 0, 0)] [] (q := 11) (L' := [some (.ref a0), some (.ref a1)]) (st' := [.int (J 0), .ref a0]) (v1 := v) (by decide +kernel) rfl trivial ?_
    refine sc_gv (pc3 := 14) (cf_V (idx := 127) (ci := 4) [.int (J 0)] m_st_forget (by decide) ⟨by decide, by decide⟩ (List.mem_of_getElem? (i := 995) (by decide +kernel)) rfl (Nat.le_of_ble_eq_true rfl) h1 (by decide +kernel) (Nat.le_of_ble_eq_true rfl) rfl) (ok_st_forget N a0 (J 0) S v) rfl (fun S12 w13 h14 => ?_)
    exact sK_st_keep_14 N S12 w13 a0 a1
def B_st_toClockEdge : bd := (⟨"GateCounter$State", "toClockEdge", "()Z"⟩, prog_6_method_5_code, 1, (some .boolean), [], 4, 4)
theorem m_st_toClockEdge : mV B_st_toClockEdge 4 0 := ⟨⟨⟨by decide +kernel, Or.inl rfl⟩, rfl, (List.mem_of_getElem? (i := 910) (by decide +kernel)), by decide +kernel, (List.mem_of_getElem? (i := 59) (by decide +kernel)), ⟨by decide, by decide⟩, by decide⟩, rfl, (by unfold nar; decide +kernel), (List.mem_of_getElem? (i := 908) (by decide +kernel)), rfl, (List.mem_of_getElem? (i := 909) (by decide +kernel))⟩
noncomputable def F_st_toClockEdge (N : Nat) (a0 : Nat) (S : shp) (v : vl) : Option (Int32 × vl) :=
  grd (kin S a0 = some (0, 4)) <| (gr S a0 6).bind fun r2 => grd (kin S r2 = some (0, 0)) <| (if (J 2000000) < (gi v r2 4) then some (((J 0), v)) else (F_ck_tick r2 S v).bind fun w5 => (gr S a0 7).bind fun r6 => grd (kin S r6 = some (0, 3)) <| (F_sg_passAheadOfClock N r6 (gi w5 r2 6) S w5).bind fun w9 => lt (si w9 a0 0 (gi w9 r2 6)) fun w10 => some (((J 1), w10)))
theorem ok_st_toClockEdge (N : Nat) (a0 : Nat) (S : shp) (v : vl) : SimK B_st_toClockEdge 0 (entB (bN B_st_toClockEdge) [.ref a0]) [] S v (F_st_toClockEdge N a0 S v) (ρpi S) := by
  show SimK B_st_toClockEdge 0 [some (.ref a0)] [] S v (F_st_toClockEdge N a0 S v) _
  unfold F_st_toClockEdge
  refine sim_grd fun h1 => ?_
  refine sim_bind fun r2 h3 => ?_
  refine sim_grd fun h4 => ?_
  refine sim_seg [(.aload_n 0, 0, 0, 0), (.getfield 12, 4, 6, 0), (.getfield 70, 0, 4, 0), (.ldc 73, 0, 0, 2000000)] [r2] (q := 9) (L' := [some (.ref a0)]) (st' := [.int (J 2000000), .int (gi v r2 4)]) (v1 := v) (by decide +kernel) rfl ⟨⟨h1, h3⟩, h4, trivial⟩ ?_
  refine sim_le (o := 5) (tg := 14) (f := 12) (by decide +kernel) rfl rfl (fun _ => ?_) (fun _ => ?_)
  · refine sim_seg [(.iconst 0, 0, 0, 0)] [] (q := 13) (L' := [some (.ref a0)]) (st' := [.int (J 0)]) (v1 := v) (by decide +kernel) rfl trivial ?_
    exact sim_iret (by decide +kernel) rfl (by decide) rfl
  · refine sim_seg [(.aload_n 0, 0, 0, 0), (.getfield 12, 4, 6, 0)] [r2] (q := 18) (L' := [some (.ref a0)]) (st' := [.ref r2]) (v1 := v) (by decide +kernel) rfl ⟨⟨h1, h3⟩, trivial⟩ ?_
    refine sc_pv (pc3 := 21) (cf_V (idx := 74) (ci := 0) [] m_ck_tick (by decide) ⟨by decide, by decide⟩ (List.mem_of_getElem? (i := 912) (by decide +kernel)) rfl (Nat.le_of_ble_eq_true rfl) h4 (by decide +kernel) (Nat.le_of_ble_eq_true rfl) rfl) (ok_ck_tick r2 S v) rfl (fun w5 => ?_)
    refine sim_bind fun r6 h7 => ?_
    refine sim_seg [(.aload_n 0, 0, 0, 0), (.getfield 21, 4, 7, 0), (.aload_n 0, 0, 0, 0), (.getfield 12, 4, 6, 0), (.getfield 77, 0, 6, 0)] [r6, r2] (q := 32) (L' := [some (.ref a0)]) (st' := [.int (gi w5 r2 6), .ref r6]) (v1 := w5) (by decide +kernel) rfl ⟨⟨h1, h7⟩, ⟨h1, h3⟩, h4, trivial⟩ ?_
    refine sim_grd fun h8 => ?_
    refine sc_pv (pc3 := 35) (cf_V (idx := 80) (ci := 3) [.int (gi w5 r2 6)] m_sg_passAheadOfClock (by decide) ⟨by decide, by decide⟩ (List.mem_of_getElem? (i := 931) (by decide +kernel)) rfl (Nat.le_of_ble_eq_true rfl) h8 (by decide +kernel) (Nat.le_of_ble_eq_true rfl) rfl) (ok_sg_passAheadOfClock N r6 (gi w5 r2 6) S w5) rfl (fun w9 => ?_)
    refine sim_seg [(.aload_n 0, 0, 0, 0), (.aload_n 0, 0, 0, 0), (.getfield 12, 4, 6, 0), (.getfield 77, 0, 6, 0), (.putfield 34, 4, 0, 0), (.iconst 1, 0, 0, 1)] [r2] (q := 47) (L' := [some (.ref a0)]) (st' := [.int (J 1)]) (v1 := (si w9 a0 0 (gi w9 r2 6))) (by decide +kernel) rfl ⟨⟨h1, h3⟩, h4, h1, trivial⟩ ?_
    refine sim_lt (x := (si w9 a0 0 (gi w9 r2 6))) ?_
    generalize (si w9 a0 0 (gi w9 r2 6)) = w10
    exact sim_iret (by decide +kernel) rfl (by decide) rfl
def B_st_valueOf : bd := (⟨"GateCounter$State", "valueOf", "(III)I"⟩, prog_6_method_9_code, 6, (some .int), [], 4, 0)
theorem m_st_valueOf : mV B_st_valueOf 4 3 := ⟨⟨⟨by decide +kernel, Or.inl rfl⟩, rfl, (List.mem_of_getElem? (i := 962) (by decide +kernel)), by decide +kernel, (List.mem_of_getElem? (i := 59) (by decide +kernel)), ⟨by decide, by decide⟩, by decide⟩, rfl, (by unfold nar; decide +kernel), (List.mem_of_getElem? (i := 960) (by decide +kernel)), rfl, (List.mem_of_getElem? (i := 961) (by decide +kernel))⟩
noncomputable def F_st_valueOf (a0 : Nat) (b1 : Int32) (b2 : Int32) (b3 : Int32) (S : shp) (v : vl) : Option Int32 :=
  grd (kin S a0 = some (0, 4)) <| (gr S a0 6).bind fun r2 => grd (kin S r2 = some (0, 0)) <| lt (((Int32.toInt64 b2) * (Int32.toInt64 (gi v r2 0))) * (Int32.toInt64 ((J 1000) + b3))) fun y5 => (if (J 0) < (lg_cmp y5 (JL 0)) then (gr S a0 7).bind fun r6 => grd (kin S r6 = some (0, 3)) <| grd (¬ y5 = 0) <| lt (Int64.toInt32 ((((Int32.toInt64 b1) * (Int32.toInt64 (gi v r6 4))) * (JL 1000000000)) / y5)) fun x10 => some (x10) else some ((J 0)))
theorem ok_st_valueOf (a0 : Nat) (b1 : Int32) (b2 : Int32) (b3 : Int32) (S : shp) (v : vl) : SimK B_st_valueOf 0 (entB (bN B_st_valueOf) [.ref a0, .int b1, .int b2, .int b3]) [] S v (F_st_valueOf a0 b1 b2 b3 S v) (ρri S v) := by
  show SimK B_st_valueOf 0 [some (.ref a0), some (.int b1), some (.int b2), some (.int b3), none, none] [] S v (F_st_valueOf a0 b1 b2 b3 S v) _
  unfold F_st_valueOf
  refine sim_grd fun h1 => ?_
  refine sim_bind fun r2 h3 => ?_
  refine sim_grd fun h4 => ?_
  refine sim_seg [(.iload_n 2, 0, 0, 0), (.i2l, 0, 0, 0), (.aload_n 0, 0, 0, 0), (.getfield 12, 4, 6, 0), (.getfield 116, 0, 0, 0), (.i2l, 0, 0, 0), (.lmul, 0, 0, 0), (.sipush 1000, 0, 0, 1000), (.iload_n 3, 0, 0, 0), (.iadd, 0, 0, 0), (.i2l, 0, 0, 0), (.lmul, 0, 0, 0)] [r2] (q := 18) (L' := [some (.ref a0), some (.int b1), some (.int b2), some (.int b3), none, none]) (st' := [.long (((Int32.toInt64 b2) * (Int32.toInt64 (gi v r2 0))) * (Int32.toInt64 ((J 1000) + b3)))]) (v1 := v) (by decide +kernel) rfl ⟨⟨h1, h3⟩, h4, trivial⟩ ?_
  refine sim_nm (((Int32.toInt64 b2) * (Int32.toInt64 (gi v r2 0))) * (Int32.toInt64 ((J 1000) + b3))) (fun y5 => [some (.ref a0), some (.int b1), some (.int b2), some (.int b3), none, none]) (fun y5 => [.long y5]) (fun y5 => ?_) rfl rfl
  refine sim_seg [(.lstore 4, 0, 0, 0)] [] (q := 20) (L' := [some (.ref a0), some (.int b1), some (.int b2), some (.int b3), some (.long y5), none]) (st' := []) (v1 := v) (by decide +kernel) rfl trivial ?_
  refine sim_seg [(.lload 4, 0, 0, 0), (.lconst 0, 0, 0, 0), (.lcmp, 0, 0, 0)] [] (q := 24) (L' := [some (.ref a0), some (.int b1), some (.int b2), some (.int b3), some (.long y5), none]) (st' := [.int (lg_cmp y5 (JL 0))]) (v1 := v) (by decide +kernel) rfl trivial ?_
  refine sim_le0 (o := 25) (tg := 49) (f := 27) (by decide +kernel) rfl rfl (fun _ => ?_) (fun _ => ?_)
  · refine sim_bind fun r6 h7 => ?_
    refine sim_grd fun h8 => ?_
    refine sim_grd fun h9 => ?_
    refine sim_seg [(.iload_n 1, 0, 0, 0), (.i2l, 0, 0, 0), (.aload_n 0, 0, 0, 0), (.getfield 21, 4, 7, 0), (.getfield 122, 3, 4, 0), (.i2l, 0, 0, 0), (.lmul, 0, 0, 0), (.ldc2_w 125, 0, 0, 1000000000), (.lmul, 0, 0, 0), (.lload 4, 0, 0, 0), (.ldiv, 0, 0, 0), (.l2i, 0, 0, 0)] [r6] (q := 46) (L' := [some (.ref a0), some (.int b1), some (.int b2), some (.int b3), some (.long y5), none]) (st' := [.int (Int64.toInt32 ((((Int32.toInt64 b1) * (Int32.toInt64 (gi v r6 4))) * (JL 1000000000)) / y5))]) (v1 := v) (by decide +kernel) rfl ⟨⟨h1, h7⟩, h8, h9, trivial⟩ ?_
    refine sim_nm (Int64.toInt32 ((((Int32.toInt64 b1) * (Int32.toInt64 (gi v r6 4))) * (JL 1000000000)) / y5)) (fun x10 => [some (.ref a0), some (.int b1), some (.int b2), some (.int b3), some (.long y5), none]) (fun x10 => [.int x10]) (fun x10 => ?_) rfl rfl
    refine sim_seg [(.goto 4, 0, 0, 0)] [] (q := 50) (L' := [some (.ref a0), some (.int b1), some (.int b2), some (.int b3), some (.long y5), none]) (st' := [.int x10]) (v1 := v) (by decide +kernel) rfl trivial ?_
    exact sim_iret (by decide +kernel) rfl rfl rfl
  · refine sim_seg [(.iconst 0, 0, 0, 0)] [] (q := 50) (L' := [some (.ref a0), some (.int b1), some (.int b2), some (.int b3), some (.long y5), none]) (st' := [.int (J 0)]) (v1 := v) (by decide +kernel) rfl trivial ?_
    exact sim_iret (by decide +kernel) rfl rfl rfl
def B_st_measureByGate : bd := (⟨"GateCounter$State", "measureByGate", "()I"⟩, prog_6_method_6_code, 5, (some .int), [], 4, 5)
theorem m_st_measureByGate : mV B_st_measureByGate 4 0 := ⟨⟨⟨by decide +kernel, Or.inl rfl⟩, rfl, (List.mem_of_getElem? (i := 906) (by decide +kernel)), by decide +kernel, (List.mem_of_getElem? (i := 59) (by decide +kernel)), ⟨by decide, by decide⟩, by decide⟩, rfl, (by unfold nar; decide +kernel), (List.mem_of_getElem? (i := 904) (by decide +kernel)), rfl, (List.mem_of_getElem? (i := 905) (by decide +kernel))⟩
noncomputable def F_st_measureByGate (N : Nat) (a0 : Nat) (S : shp) (v : vl) : Option (Int32 × shp × vl) :=
  grd (kin S a0 = some (0, 4)) <| (F_st_toClockEdge N a0 S v).bind fun (x2, w3) => (if x2 = (J 0) then some (((J 1), S, w3)) else (gr S a0 7).bind fun r4 => grd (kin S r4 = some (0, 3)) <| (gr S a0 6).bind fun r7 => grd (kin S r7 = some (0, 0)) <| (F_ck_passEdges N r7 (gi w3 a0 1) S w3).bind fun w10 => (if (J 2000000) < (gi w10 r7 6) then some (((J 1), S, w10)) else lt (si w10 a0 0 (gi w10 r7 6)) fun w11 => (F_sg_passAheadOfClock N r4 (gi w11 a0 0) S w11).bind fun w12 => (F_st_valueOf a0 ((gi w12 r4 3) - (gi w3 r4 3)) (gi w12 a0 1) (gi w12 a0 3) S w12).bind fun x13 => grd (kin S (nxt S) = none) <| lt3 (grow S (0, 1) (fTN 1).2.1) (nxt S) (zero w12 (nxt S)) fun S15 r16 v17 => grd (kin S15 a0 = some (0, 4)) <| (F_ms_init r16 (J 0) (gi w3 a0 0) (gi v17 a0 0) ((gi w12 r4 3) - (gi w3 r4 3)) x13 (gi v17 a0 1) (gi v17 a0 3) S15 v17).bind fun w21 => (F_st_keep N a0 r16 S15 w21).bind fun (S22, w23) => some (((J 0), S22, w23))))
theorem ok_st_measureByGate (N : Nat) (a0 : Nat) (S : shp) (v : vl) : SimK B_st_measureByGate 0 (entB (bN B_st_measureByGate) [.ref a0]) [] S v (F_st_measureByGate N a0 S v) (ρgi) := by
  show SimK B_st_measureByGate 0 [some (.ref a0), none, none, none, none] [] S v (F_st_measureByGate N a0 S v) _
  unfold F_st_measureByGate
  refine sim_seg [(.aload_n 0, 0, 0, 0)] [] (q := 1) (L' := [some (.ref a0), none, none, none, none]) (st' := [.ref a0]) (v1 := v) (by decide +kernel) rfl trivial ?_
  refine sim_grd fun h1 => ?_
  refine sc_pi (pc3 := 4) (cf_V (idx := 83) (ci := 4) [] m_st_toClockEdge (by decide) ⟨by decide, by decide⟩ (List.mem_of_getElem? (i := 907) (by decide +kernel)) rfl (Nat.le_of_ble_eq_true rfl) h1 (by decide +kernel) (Nat.le_of_ble_eq_true rfl) rfl) (ok_st_toClockEdge N a0 S v) rfl (fun x2 w3 => ?_)
  refine sim_ne0 (o := 5) (tg := 9) (f := 7) (by decide +kernel) rfl rfl (fun _ => ?_) (fun _ => ?_)
  · refine sim_seg [(.iconst 1, 0, 0, 1)] [] (q := 8) (L' := [some (.ref a0), none, none, none, none]) (st' := [.int (J 1)]) (v1 := w3) (by decide +kernel) rfl trivial ?_
    exact sim_iret (by decide +kernel) rfl rfl rfl
  · refine sim_seg [(.aload_n 0, 0, 0, 0), (.getfield 34, 4, 0, 0), (.istore_n 1, 0, 0, 0)] [] (q := 14) (L' := [some (.ref a0), some (.int (gi w3 a0 0)), none, none, none]) (st' := []) (v1 := w3) (by decide +kernel) rfl ⟨h1, trivial⟩ ?_
    refine sim_bind fun r4 h5 => ?_
    refine sim_grd fun h6 => ?_
    refine sim_seg [(.aload_n 0, 0, 0, 0), (.getfield 21, 4, 7, 0), (.getfield 87, 3, 3, 0), (.istore_n 2, 0, 0, 0)] [r4] (q := 22) (L' := [some (.ref a0), some (.int (gi w3 a0 0)), some (.int (gi w3 r4 3)), none, none]) (st' := []) (v1 := w3) (by decide +kernel) rfl ⟨⟨h1, h5⟩, h6, trivial⟩ ?_
    refine sim_bind fun r7 h8 => ?_
    refine sim_seg [(.aload_n 0, 0, 0, 0), (.getfield 12, 4, 6, 0), (.aload_n 0, 0, 0, 0), (.getfield 38, 4, 1, 0)] [r7] (q := 30) (L' := [some (.ref a0), some (.int (gi w3 a0 0)), some (.int (gi w3 r4 3)), none, none]) (st' := [.int (gi w3 a0 1), .ref r7]) (v1 := w3) (by decide +kernel) rfl ⟨⟨h1, h8⟩, h1, trivial⟩ ?_
    refine sim_grd fun h9 => ?_
    refine sc_pv (pc3 := 33) (cf_V (idx := 90) (ci := 0) [.int (gi w3 a0 1)] m_ck_passEdges (by decide) ⟨by decide, by decide⟩ (List.mem_of_getElem? (i := 950) (by decide +kernel)) rfl (Nat.le_of_ble_eq_true rfl) h9 (by decide +kernel) (Nat.le_of_ble_eq_true rfl) rfl) (ok_ck_passEdges N r7 (gi w3 a0 1) S w3) rfl (fun w10 => ?_)
    refine sim_seg [(.aload_n 0, 0, 0, 0), (.getfield 12, 4, 6, 0), (.getfield 77, 0, 6, 0), (.ldc 73, 0, 0, 2000000)] [r7] (q := 42) (L' := [some (.ref a0), some (.int (gi w3 a0 0)), some (.int (gi w3 r4 3)), none, none]) (st' := [.int (J 2000000), .int (gi w10 r7 6)]) (v1 := w10) (by decide +kernel) rfl ⟨⟨h1, h8⟩, h9, trivial⟩ ?_
    refine sim_le (o := 5) (tg := 47) (f := 45) (by decide +kernel) rfl rfl (fun _ => ?_) (fun _ => ?_)
    · refine sim_seg [(.iconst 1, 0, 0, 1)] [] (q := 46) (L' := [some (.ref a0), some (.int (gi w3 a0 0)), some (.int (gi w3 r4 3)), none, none]) (st' := [.int (J 1)]) (v1 := w10) (by decide +kernel) rfl trivial ?_
      exact sim_iret (by decide +kernel) rfl rfl rfl
    · refine sim_seg [(.aload_n 0, 0, 0, 0), (.aload_n 0, 0, 0, 0), (.getfield 12, 4, 6, 0), (.getfield 77, 0, 6, 0), (.putfield 34, 4, 0, 0), (.aload_n 0, 0, 0, 0)] [r7] (q := 59) (L' := [some (.ref a0), some (.int (gi w3 a0 0)), some (.int (gi w3 r4 3)), none, none]) (st' := [.ref a0]) (v1 := (si w10 a0 0 (gi w10 r7 6))) (by decide +kernel) rfl ⟨⟨h1, h8⟩, h9, h1, trivial⟩ ?_
      refine sim_lt (x := (si w10 a0 0 (gi w10 r7 6))) ?_
      generalize (si w10 a0 0 (gi w10 r7 6)) = w11
      refine sim_seg [(.getfield 21, 4, 7, 0), (.aload_n 0, 0, 0, 0), (.getfield 34, 4, 0, 0)] [r4] (q := 66) (L' := [some (.ref a0), some (.int (gi w3 a0 0)), some (.int (gi w3 r4 3)), none, none]) (st' := [.int (gi w11 a0 0), .ref r4]) (v1 := w11) (by decide +kernel) rfl ⟨⟨h1, h5⟩, h1, trivial⟩ ?_
      refine sc_pv (pc3 := 69) (cf_V (idx := 80) (ci := 3) [.int (gi w11 a0 0)] m_sg_passAheadOfClock (by decide) ⟨by decide, by decide⟩ (List.mem_of_getElem? (i := 931) (by decide +kernel)) rfl (Nat.le_of_ble_eq_true rfl) h6 (by decide +kernel) (Nat.le_of_ble_eq_true rfl) rfl) (ok_sg_passAheadOfClock N r4 (gi w11 a0 0) S w11) rfl (fun w12 => ?_)
      refine sim_seg [(.aload_n 0, 0, 0, 0), (.getfield 21, 4, 7, 0), (.getfield 87, 3, 3, 0), (.iload_n 2, 0, 0, 0), (.isub, 0, 0, 0), (.istore_n 3, 0, 0, 0)] [r4] (q := 79) (L' := [some (.ref a0), some (.int (gi w3 a0 0)), some (.int (gi w3 r4 3)), some (.int ((gi w12 r4 3) - (gi w3 r4 3))), none]) (st' := []) (v1 := w12) (by decide +kernel) rfl ⟨⟨h1, h5⟩, h6, trivial⟩ ?_
      refine sim_seg [(.aload_n 0, 0, 0, 0), (.iload_n 3, 0, 0, 0), (.aload_n 0, 0, 0, 0), (.getfield 38, 4, 1, 0), (.aload_n 0, 0, 0, 0), (.getfield 44, 4, 3, 0)] [] (q := 89) (L' := [some (.ref a0), some (.int (gi w3 a0 0)), some (.int (gi w3 r4 3)), some (.int ((gi w12 r4 3) - (gi w3 r4 3))), none]) (st' := [.int (gi w12 a0 3), .int (gi w12 a0 1), .int ((gi w12 r4 3) - (gi w3 r4 3)), .ref a0]) (v1 := w12) (by decide +kernel) rfl ⟨h1, h1, trivial⟩ ?_
      refine sc_ri (pc3 := 92) (cf_V (idx := 93) (ci := 4) [.int ((gi w12 r4 3) - (gi w3 r4 3)), .int (gi w12 a0 1), .int (gi w12 a0 3)] m_st_valueOf (by decide) ⟨by decide, by decide⟩ (List.mem_of_getElem? (i := 959) (by decide +kernel)) rfl (Nat.le_of_ble_eq_true rfl) h1 (by decide +kernel) (Nat.le_of_ble_eq_true rfl) rfl) (ok_st_valueOf a0 ((gi w12 r4 3) - (gi w3 r4 3)) (gi w12 a0 1) (gi w12 a0 3) S w12) rfl (fun x13 => ?_)
      refine sim_seg [(.istore 4, 0, 0, 0)] [] (q := 94) (L' := [some (.ref a0), some (.int (gi w3 a0 0)), some (.int (gi w3 r4 3)), some (.int ((gi w12 r4 3) - (gi w3 r4 3))), some (.int x13)]) (st' := []) (v1 := w12) (by decide +kernel) rfl trivial ?_
      refine sim_seg [(.aload_n 0, 0, 0, 0)] [] (q := 95) (L' := [some (.ref a0), some (.int (gi w3 a0 0)), some (.int (gi w3 r4 3)), some (.int ((gi w12 r4 3) - (gi w3 r4 3))), some (.int x13)]) (st' := [.ref a0]) (v1 := w12) (by decide +kernel) rfl trivial ?_
      refine sim_grd fun h14 => ?_
      refine sim_new (idx := 25) (ci := 1) (pc3 := 98) (by decide) (by decide +kernel) (List.mem_of_getElem? (i := 184) (by decide +kernel)) (List.mem_of_getElem? (i := 964) (by decide +kernel)) (List.mem_of_getElem? (i := 66) (by decide +kernel)) rfl h14 (fun S15 r16 v17 h18 h19 => ?_)
      refine sim_grd fun h20 => ?_
      refine sim_seg [(.dup, 0, 0, 0), (.iconst 0, 0, 0, 0), (.iload_n 1, 0, 0, 0), (.aload_n 0, 0, 0, 0), (.getfield 34, 4, 0, 0), (.iload_n 3, 0, 0, 0), (.iload 4, 0, 0, 0), (.aload_n 0, 0, 0, 0), (.getfield 38, 4, 1, 0), (.aload_n 0, 0, 0, 0), (.getfield 44, 4, 3, 0)] [] (q := 116) (L' := [some (.ref a0), some (.int (gi w3 a0 0)), some (.int (gi w3 r4 3)), some (.int ((gi w12 r4 3) - (gi w3 r4 3))), some (.int x13)]) (st' := [.int (gi v17 a0 3), .int (gi v17 a0 1), .int x13, .int ((gi w12 r4 3) - (gi w3 r4 3)), .int (gi v17 a0 0), .int (gi w3 a0 0), .int (J 0), .ref r16, .ref r16, .ref a0]) (v1 := v17) (by decide +kernel) rfl ⟨h20, h20, h20, trivial⟩ ?_
      refine sc_pv (pc3 := 119) (cf_I (idx := 97) [.int (J 0), .int (gi w3 a0 0), .int (gi v17 a0 0), .int ((gi w12 r4 3) - (gi w3 r4 3)), .int x13, .int (gi v17 a0 1), .int (gi v17 a0 3)] m_ms_init ⟨by decide, by decide⟩ (List.mem_of_getElem? (i := 965) (by decide +kernel)) rfl (Nat.le_of_ble_eq_true rfl) (by decide +kernel) (Nat.le_of_ble_eq_true rfl) rfl) (ok_ms_init r16 (J 0) (gi w3 a0 0) (gi v17 a0 0) ((gi w12 r4 3) - (gi w3 r4 3)) x13 (gi v17 a0 1) (gi v17 a0 3) S15 v17) rfl (fun w21 => ?_)
      refine sc_gv (pc3 := 122) (cf_V (idx := 100) (ci := 4) [.ref r16] m_st_keep (by decide) ⟨by decide, by decide⟩ (List.mem_of_getElem? (i := 991) (by decide +kernel)) rfl (Nat.le_of_ble_eq_true rfl) h20 (by decide +kernel) (Nat.le_of_ble_eq_true rfl) rfl) (ok_st_keep N a0 r16 S15 w21) rfl (fun S22 w23 h24 => ?_)
      refine sim_seg [(.iconst 0, 0, 0, 0)] [] (q := 123) (L' := [some (.ref a0), some (.int (gi w3 a0 0)), some (.int (gi w3 r4 3)), some (.int ((gi w12 r4 3) - (gi w3 r4 3))), some (.int x13)]) (st' := [.int (J 0)]) (v1 := w23) (by decide +kernel) rfl trivial ?_
      exact sim_iret (by decide +kernel) rfl rfl rfl
def B_gc_gate : bd := (⟨"GateCounter", "gate", "()I"⟩, prog_1_method_49_code, 2, (some .int), [], 5, 7)
theorem m_gc_gate : mV B_gc_gate 5 0 := ⟨⟨⟨by decide +kernel, Or.inl rfl⟩, rfl, (List.mem_of_getElem? (i := 898) (by decide +kernel)), by decide +kernel, (List.mem_of_getElem? (i := 57) (by decide +kernel)), ⟨by decide, by decide⟩, by decide⟩, rfl, (by unfold nar; decide +kernel), (List.mem_of_getElem? (i := 896) (by decide +kernel)), rfl, (List.mem_of_getElem? (i := 897) (by decide +kernel))⟩
noncomputable def F_gc_gate (N : Nat) (a0 : Nat) (S : shp) (v : vl) : Option (Int32 × shp × vl) :=
  grd (kin S a0 = some (0, 5)) <| (gr S a0 6).bind fun r2 => (F_gc_fresh N a0 r2 S v).bind fun (q4, S5, w6) => oc2 q4 none fun r8 => grd (kin S5 r8 = some (0, 4)) <| (F_st_measureByGate N r8 S5 w6).bind fun (x10, S11, w12) => (if x10 = (J 0) then (gr S11 a0 6).bind fun r14 => (F_gc_accept N a0 r14 S11 w12).bind fun (x16, S17, w18) => some ((x16, S17, w18)) else (F_gc_refuse a0 x10 (J 0) S11 w12).bind fun (x20, w21) => some ((x20, S11, w21)))
theorem ok_gc_gate (N : Nat) (a0 : Nat) (S : shp) (v : vl) : SimK B_gc_gate 0 (entB (bN B_gc_gate) [.ref a0]) [] S v (F_gc_gate N a0 S v) (ρgi) := by
  show SimK B_gc_gate 0 [some (.ref a0), none] [] S v (F_gc_gate N a0 S v) _
  unfold F_gc_gate
  refine sim_grd fun h1 => ?_
  refine sim_bind fun r2 h3 => ?_
  refine sim_seg [(.aload_n 0, 0, 0, 0), (.aload_n 0, 0, 0, 0), (.getfield 30, 5, 6, 0)] [r2] (q := 5) (L' := [some (.ref a0), none]) (st' := [.ref r2, .ref a0]) (v1 := v) (by decide +kernel) rfl ⟨⟨h1, h3⟩, trivial⟩ ?_
  refine sc_gq (pc3 := 8) (cf_V (idx := 196) (ci := 5) [.ref r2] m_gc_fresh (by decide) ⟨by decide, by decide⟩ (List.mem_of_getElem? (i := 899) (by decide +kernel)) rfl (Nat.le_of_ble_eq_true rfl) h1 (by decide +kernel) (Nat.le_of_ble_eq_true rfl) rfl) (ok_gc_fresh N a0 r2 S v) rfl (fun q4 S5 w6 h7 => ?_)
  refine sim_oc2 (fun _ => sim_none) (fun r8 _ => ?_)
  refine sim_grd fun h9 => ?_
  refine sc_gi (pc3 := 11) (cf_V (idx := 232) (ci := 4) [] m_st_measureByGate (by decide) ⟨by decide, by decide⟩ (List.mem_of_getElem? (i := 903) (by decide +kernel)) rfl (Nat.le_of_ble_eq_true rfl) h9 (by decide +kernel) (Nat.le_of_ble_eq_true rfl) rfl) (ok_st_measureByGate N r8 S5 w6) rfl (fun x10 S11 w12 h13 => ?_)
  refine sim_seg [(.istore_n 1, 0, 0, 0)] [] (q := 12) (L' := [some (.ref a0), some (.int x10)]) (st' := []) (v1 := w12) (by decide +kernel) rfl trivial ?_
  refine sim_seg [(.iload_n 1, 0, 0, 0)] [] (q := 13) (L' := [some (.ref a0), some (.int x10)]) (st' := [.int x10]) (v1 := w12) (by decide +kernel) rfl trivial ?_
  refine sim_ne0 (o := 14) (tg := 27) (f := 16) (by decide +kernel) rfl rfl (fun _ => ?_) (fun _ => ?_)
  · refine sim_bind fun r14 h15 => ?_
    refine sim_seg [(.aload_n 0, 0, 0, 0), (.aload_n 0, 0, 0, 0), (.getfield 30, 5, 6, 0)] [r14] (q := 21) (L' := [some (.ref a0), some (.int x10)]) (st' := [.ref r14, .ref a0]) (v1 := w12) (by decide +kernel) rfl ⟨⟨(h13.2.2.2.2 _ _ (h7.2.2.2.2 _ _ h1)), h15⟩, trivial⟩ ?_
    refine sc_gi (pc3 := 24) (cf_V (idx := 302) (ci := 5) [.ref r14] m_gc_accept (by decide) ⟨by decide, by decide⟩ (List.mem_of_getElem? (i := 1000) (by decide +kernel)) rfl (Nat.le_of_ble_eq_true rfl) (h13.2.2.2.2 _ _ (h7.2.2.2.2 _ _ h1)) (by decide +kernel) (Nat.le_of_ble_eq_true rfl) rfl) (ok_gc_accept N a0 r14 S11 w12) rfl (fun x16 S17 w18 h19 => ?_)
    refine sim_seg [(.goto 9, 0, 0, 0)] [] (q := 33) (L' := [some (.ref a0), some (.int x10)]) (st' := [.int x16]) (v1 := w18) (by decide +kernel) rfl trivial ?_
    exact sim_iret (by decide +kernel) rfl rfl rfl
  · refine sim_seg [(.aload_n 0, 0, 0, 0), (.iload_n 1, 0, 0, 0), (.iconst 0, 0, 0, 0)] [] (q := 30) (L' := [some (.ref a0), some (.int x10)]) (st' := [.int (J 0), .int x10, .ref a0]) (v1 := w12) (by decide +kernel) rfl trivial ?_
    refine sc_pi (pc3 := 33) (cf_V (idx := 296) (ci := 5) [.int x10, .int (J 0)] m_gc_refuse (by decide) ⟨by decide, by decide⟩ (List.mem_of_getElem? (i := 1029) (by decide +kernel)) rfl (Nat.le_of_ble_eq_true rfl) (h13.2.2.2.2 _ _ (h7.2.2.2.2 _ _ h1)) (by decide +kernel) (Nat.le_of_ble_eq_true rfl) rfl) (ok_gc_refuse a0 x10 (J 0) S11 w12) rfl (fun x20 w21 => ?_)
    exact sim_iret (by decide +kernel) rfl rfl rfl
def B_gc_found : bd := (⟨"GateCounter", "found", "(I)LGateCounter$Measurement;"⟩, prog_1_method_69_code, 3, (some (.object "GateCounter$Measurement")), [], 5, 6)
theorem m_gc_found : mV B_gc_found 5 1 := ⟨⟨⟨by decide +kernel, Or.inl rfl⟩, rfl, (List.mem_of_getElem? (i := 1049) (by decide +kernel)), by decide +kernel, (List.mem_of_getElem? (i := 57) (by decide +kernel)), ⟨by decide, by decide⟩, by decide⟩, rfl, (by unfold nar; decide +kernel), (List.mem_of_getElem? (i := 1048) (by decide +kernel)), rfl, (List.mem_of_getElem? (i := 40) (by decide +kernel))⟩
noncomputable def F_gc_found (a0 : Nat) (b1 : Int32) (S : shp) (v : vl) : Option (Nat ⊕ (Option Nat)) :=
  grd (kin S a0 = some (0, 5)) <| (gr S a0 5).bind fun r2 => grd (kin S r2 = some (0, 4)) <| (F_st_at r2 b1 S v).bind fun q5 => oc2 q5 (some (.inl 1)) fun r6 => some (.inr (some r6))
theorem ok_gc_found (a0 : Nat) (b1 : Int32) (S : shp) (v : vl) : SimK B_gc_found 0 (entB (bN B_gc_found) [.ref a0, .int b1]) [] S v (F_gc_found a0 b1 S v) (ρxq S v) := by
  show SimK B_gc_found 0 [some (.ref a0), some (.int b1), none] [] S v (F_gc_found a0 b1 S v) _
  unfold F_gc_found
  refine sim_grd fun h1 => ?_
  refine sim_bind fun r2 h3 => ?_
  refine sim_seg [(.aload_n 0, 0, 0, 0), (.getfield 26, 5, 5, 0), (.iload_n 1, 0, 0, 0)] [r2] (q := 5) (L' := [some (.ref a0), some (.int b1), none]) (st' := [.int b1, .ref r2]) (v1 := v) (by decide +kernel) rfl ⟨⟨h1, h3⟩, trivial⟩ ?_
  refine sim_grd fun h4 => ?_
  refine sc_rq (pc3 := 8) (cf_V (idx := 364) (ci := 4) [.int b1] m_st_at (by decide) ⟨by decide, by decide⟩ (List.mem_of_getElem? (i := 1050) (by decide +kernel)) rfl (Nat.le_of_ble_eq_true rfl) h4 (by decide +kernel) (Nat.le_of_ble_eq_true rfl) rfl) (ok_st_at r2 b1 S v) rfl (fun q5 => ?_)
  refine sim_oc2 (fun _ => ?_) (fun r6 _ => ?_)
  · refine sim_seg [(.astore_n 2, 0, 0, 0)] [] (q := 9) (L' := [some (.ref a0), some (.int b1), some (.null)]) (st' := []) (v1 := v) (by decide +kernel) rfl trivial ?_
    refine sim_seg [(.aload_n 2, 0, 0, 0)] [] (q := 10) (L' := [some (.ref a0), some (.int b1), some (.null)]) (st' := [.null]) (v1 := v) (by decide +kernel) rfl trivial ?_
    refine sim_ifnonnullN (o := 11) (f := 13) (by decide +kernel) rfl ?_
    exact sim_throw thr1 rfl rfl (by decide) (by decide +kernel) (by decide +kernel) (by decide +kernel) (by decide +kernel) (Nat.le_of_ble_eq_true rfl) rfl
  · refine sim_seg [(.astore_n 2, 0, 0, 0)] [] (q := 9) (L' := [some (.ref a0), some (.int b1), some (.ref r6)]) (st' := []) (v1 := v) (by decide +kernel) rfl trivial ?_
    refine sim_seg [(.aload_n 2, 0, 0, 0)] [] (q := 10) (L' := [some (.ref a0), some (.int b1), some (.ref r6)]) (st' := [.ref r6]) (v1 := v) (by decide +kernel) rfl trivial ?_
    refine sim_ifnonnullS (o := 11) (tg := 21) (by decide +kernel) rfl ?_
    refine sim_seg [(.aload_n 2, 0, 0, 0)] [] (q := 22) (L' := [some (.ref a0), some (.int b1), some (.ref r6)]) (st' := [.ref r6]) (v1 := v) (by decide +kernel) rfl trivial ?_
    exact sim_aretS (by decide +kernel) rfl (Or.inl ⟨_, rfl⟩) rfl
def B_gc_require : bd := (⟨"GateCounter", "require", "(Z)V"⟩, prog_1_method_67_code, 1, none, [], 5, 6)
theorem m_gc_require : mS B_gc_require 1 := ⟨⟨⟨by decide +kernel, Or.inl rfl⟩, rfl, (List.mem_of_getElem? (i := 1071) (by decide +kernel)), by decide +kernel, (List.mem_of_getElem? (i := 57) (by decide +kernel)), ⟨by decide, by decide⟩, by decide⟩, rfl, (by unfold nar; decide +kernel), (List.mem_of_getElem? (i := 1070) (by decide +kernel))⟩
noncomputable def F_gc_require (b0 : Int32) (S : shp) (v : vl) : Option (Nat ⊕ Unit) :=
  (if b0 = (J 0) then some (.inl 0) else some (.inr ()))
theorem ok_gc_require (b0 : Int32) (S : shp) (v : vl) : SimK B_gc_require 0 (entB (bN B_gc_require) [.int b0]) [] S v (F_gc_require b0 S v) (ρxv S v) := by
  show SimK B_gc_require 0 [some (.int b0)] [] S v (F_gc_require b0 S v) _
  unfold F_gc_require
  refine sim_seg [(.iload_n 0, 0, 0, 0)] [] (q := 1) (L' := [some (.int b0)]) (st' := [.int b0]) (v1 := v) (by decide +kernel) rfl trivial ?_
  refine sim_ne0 (o := 11) (tg := 12) (f := 4) (by decide +kernel) rfl rfl (fun _ => ?_) (fun _ => ?_)
  · exact sim_throw thr0 rfl rfl (by decide) (by decide +kernel) (by decide +kernel) (by decide +kernel) (by decide +kernel) (Nat.le_of_ble_eq_true rfl) rfl
  · exact sim_vret (by decide +kernel) rfl rfl
def B_gc_requireWithin : bd := (⟨"GateCounter", "requireWithin", "(III)V"⟩, prog_1_method_68_code, 3, none, [], 5, 7)
theorem m_gc_requireWithin : mS B_gc_requireWithin 3 := ⟨⟨⟨by decide +kernel, Or.inl rfl⟩, rfl, (List.mem_of_getElem? (i := 1068) (by decide +kernel)), by decide +kernel, (List.mem_of_getElem? (i := 57) (by decide +kernel)), ⟨by decide, by decide⟩, by decide⟩, rfl, (by unfold nar; decide +kernel), (List.mem_of_getElem? (i := 1067) (by decide +kernel))⟩
noncomputable def F_gc_requireWithin (b0 : Int32) (b1 : Int32) (b2 : Int32) (S : shp) (v : vl) : Option (Nat ⊕ Unit) :=
  (if b0 < b1 then bx (F_gc_require (J 0) S v) (fun k0 => some (.inl k0)) fun _ => some (.inr ()) else (if b2 < b0 then bx (F_gc_require (J 0) S v) (fun k0 => some (.inl k0)) fun _ => some (.inr ()) else bx (F_gc_require (J 1) S v) (fun k0 => some (.inl k0)) fun _ => some (.inr ())))
theorem ok_gc_requireWithin (b0 : Int32) (b1 : Int32) (b2 : Int32) (S : shp) (v : vl) : SimK B_gc_requireWithin 0 (entB (bN B_gc_requireWithin) [.int b0, .int b1, .int b2]) [] S v (F_gc_requireWithin b0 b1 b2 S v) (ρxv S v) := by
  show SimK B_gc_requireWithin 0 [some (.int b0), some (.int b1), some (.int b2)] [] S v (F_gc_requireWithin b0 b1 b2 S v) _
  unfold F_gc_requireWithin
  refine sim_seg [(.iload_n 0, 0, 0, 0), (.iload_n 1, 0, 0, 0)] [] (q := 2) (L' := [some (.int b0), some (.int b1), some (.int b2)]) (st' := [.int b1, .int b0]) (v1 := v) (by decide +kernel) rfl trivial ?_
  refine sim_lt' (o := 12) (tg := 14) (f := 5) (by decide +kernel) rfl rfl (fun _ => ?_) (fun _ => ?_)
  · refine sim_seg [(.iconst 0, 0, 0, 0)] [] (q := 15) (L' := [some (.int b0), some (.int b1), some (.int b2)]) (st' := [.int (J 0)]) (v1 := v) (by decide +kernel) rfl trivial ?_
    refine sc_xv (pc3 := 18) (cf_S (idx := 155) [.int (J 0)] m_gc_require ⟨by decide, by decide⟩ (List.mem_of_getElem? (i := 1069) (by decide +kernel)) rfl (Nat.le_of_ble_eq_true rfl) (by decide +kernel) (Nat.le_of_ble_eq_true rfl) rfl) (ok_gc_require (J 0) S v) rfl rfl (fun k0 b hb => by cases hb; rfl) (fun _ => ?_)
    exact sim_vret (by decide +kernel) rfl rfl
  · refine sim_seg [(.iload_n 0, 0, 0, 0), (.iload_n 2, 0, 0, 0)] [] (q := 7) (L' := [some (.int b0), some (.int b1), some (.int b2)]) (st' := [.int b2, .int b0]) (v1 := v) (by decide +kernel) rfl trivial ?_
    refine sim_gt (o := 7) (tg := 14) (f := 10) (by decide +kernel) rfl rfl (fun _ => ?_) (fun _ => ?_)
    · refine sim_seg [(.iconst 0, 0, 0, 0)] [] (q := 15) (L' := [some (.int b0), some (.int b1), some (.int b2)]) (st' := [.int (J 0)]) (v1 := v) (by decide +kernel) rfl trivial ?_
      refine sc_xv (pc3 := 18) (cf_S (idx := 155) [.int (J 0)] m_gc_require ⟨by decide, by decide⟩ (List.mem_of_getElem? (i := 1069) (by decide +kernel)) rfl (Nat.le_of_ble_eq_true rfl) (by decide +kernel) (Nat.le_of_ble_eq_true rfl) rfl) (ok_gc_require (J 0) S v) rfl rfl (fun k0 b hb => by cases hb; rfl) (fun _ => ?_)
      exact sim_vret (by decide +kernel) rfl rfl
    · refine sim_seg [(.iconst 1, 0, 0, 1), (.goto 4, 0, 0, 0)] [] (q := 15) (L' := [some (.int b0), some (.int b1), some (.int b2)]) (st' := [.int (J 1)]) (v1 := v) (by decide +kernel) rfl trivial ?_
      refine sc_xv (pc3 := 18) (cf_S (idx := 155) [.int (J 1)] m_gc_require ⟨by decide, by decide⟩ (List.mem_of_getElem? (i := 1069) (by decide +kernel)) rfl (Nat.le_of_ble_eq_true rfl) (by decide +kernel) (Nat.le_of_ble_eq_true rfl) rfl) (ok_gc_require (J 1) S v) rfl rfl (fun k0 b hb => by cases hb; rfl) (fun _ => ?_)
      exact sim_vret (by decide +kernel) rfl rfl
def B_gc_measurement : bd := (⟨"GateCounter", "measurement", "(II)I"⟩, prog_1_method_11_code, 4, (some .int), [], 5, 8)
theorem m_gc_measurement : mV B_gc_measurement 5 2 := ⟨⟨⟨by decide +kernel, Or.inl rfl⟩, rfl, (List.mem_of_getElem? (i := 1045) (by decide +kernel)), by decide +kernel, (List.mem_of_getElem? (i := 57) (by decide +kernel)), ⟨by decide, by decide⟩, by decide⟩, rfl, (by unfold nar; decide +kernel), (List.mem_of_getElem? (i := 1043) (by decide +kernel)), rfl, (List.mem_of_getElem? (i := 1044) (by decide +kernel))⟩
noncomputable def F_gc_measurement (N : Nat) (a0 : Nat) (b1 : Int32) (b2 : Int32) (S : shp) (v : vl) : Option (Nat ⊕ Int32) :=
  grd (kin S a0 = some (0, 5)) <| bx (F_gc_found a0 b1 S v) (fun k0 => some (.inl k0)) fun q2 => oc2 q2 none fun r3 => bx (F_gc_requireWithin b2 (J 0) (J 7) S v) (fun k0 => some (.inl k0)) fun _ => grd (kin S r3 = some (0, 1)) <| (F_ms_number N r3 b2 S v).bind fun x5 => some (.inr x5)
theorem ok_gc_measurement (N : Nat) (a0 : Nat) (b1 : Int32) (b2 : Int32) (S : shp) (v : vl) : SimK B_gc_measurement 0 (entB (bN B_gc_measurement) [.ref a0, .int b1, .int b2]) [] S v (F_gc_measurement N a0 b1 b2 S v) (ρxi S v) := by
  show SimK B_gc_measurement 0 [some (.ref a0), some (.int b1), some (.int b2), none] [] S v (F_gc_measurement N a0 b1 b2 S v) _
  unfold F_gc_measurement
  refine sim_seg [(.aload_n 0, 0, 0, 0), (.iload_n 1, 0, 0, 0)] [] (q := 2) (L' := [some (.ref a0), some (.int b1), some (.int b2), none]) (st' := [.int b1, .ref a0]) (v1 := v) (by decide +kernel) rfl trivial ?_
  refine sim_grd fun h1 => ?_
  refine sc_xq (pc3 := 5) (cf_V (idx := 166) (ci := 5) [.int b1] m_gc_found (by decide) ⟨by decide, by decide⟩ (List.mem_of_getElem? (i := 1046) (by decide +kernel)) rfl (Nat.le_of_ble_eq_true rfl) h1 (by decide +kernel) (Nat.le_of_ble_eq_true rfl) rfl) (ok_gc_found a0 b1 S v) rfl rfl (fun k0 b hb => by cases hb; rfl) (fun q2 => ?_)
  refine sim_oc2 (fun _ => sim_none) (fun r3 _ => ?_)
  refine sim_seg [(.astore_n 3, 0, 0, 0)] [] (q := 6) (L' := [some (.ref a0), some (.int b1), some (.int b2), some (.ref r3)]) (st' := []) (v1 := v) (by decide +kernel) rfl trivial ?_
  refine sim_seg [(.iload_n 2, 0, 0, 0), (.iconst 0, 0, 0, 0), (.bipush 7, 0, 0, 7)] [] (q := 10) (L' := [some (.ref a0), some (.int b1), some (.int b2), some (.ref r3)]) (st' := [.int (J 7), .int (J 0), .int b2]) (v1 := v) (by decide +kernel) rfl trivial ?_
  refine sc_xv (pc3 := 13) (cf_S (idx := 170) [.int b2, .int (J 0), .int (J 7)] m_gc_requireWithin ⟨by decide, by decide⟩ (List.mem_of_getElem? (i := 1066) (by decide +kernel)) rfl (Nat.le_of_ble_eq_true rfl) (by decide +kernel) (Nat.le_of_ble_eq_true rfl) rfl) (ok_gc_requireWithin b2 (J 0) (J 7) S v) rfl rfl (fun k0 b hb => by cases hb; rfl) (fun _ => ?_)
  refine sim_seg [(.aload_n 3, 0, 0, 0), (.iload_n 2, 0, 0, 0)] [] (q := 15) (L' := [some (.ref a0), some (.int b1), some (.int b2), some (.ref r3)]) (st' := [.int b2, .ref r3]) (v1 := v) (by decide +kernel) rfl trivial ?_
  refine sim_grd fun h4 => ?_
  refine sc_ri (pc3 := 18) (cf_V (idx := 174) (ci := 1) [.int b2] m_ms_number (by decide) ⟨by decide, by decide⟩ (List.mem_of_getElem? (i := 1072) (by decide +kernel)) rfl (Nat.le_of_ble_eq_true rfl) h4 (by decide +kernel) (Nat.le_of_ble_eq_true rfl) rfl) (ok_ms_number N r3 b2 S v) rfl (fun x5 => ?_)
  exact sim_iret (by decide +kernel) rfl rfl rfl
def B_gc_reason : bd := (⟨"GateCounter", "reason", "()I"⟩, prog_1_method_12_code, 1, (some .int), [], 5, 0)
theorem m_gc_reason : mV B_gc_reason 5 0 := ⟨⟨⟨by decide +kernel, Or.inl rfl⟩, rfl, (List.mem_of_getElem? (i := 1076) (by decide +kernel)), by decide +kernel, (List.mem_of_getElem? (i := 57) (by decide +kernel)), ⟨by decide, by decide⟩, by decide⟩, rfl, (by unfold nar; decide +kernel), (List.mem_of_getElem? (i := 1074) (by decide +kernel)), rfl, (List.mem_of_getElem? (i := 1075) (by decide +kernel))⟩
noncomputable def F_gc_reason (a0 : Nat) (S : shp) (v : vl) : Option Int32 :=
  grd (kin S a0 = some (0, 5)) <| some ((gi v a0 2))
theorem ok_gc_reason (a0 : Nat) (S : shp) (v : vl) : SimK B_gc_reason 0 (entB (bN B_gc_reason) [.ref a0]) [] S v (F_gc_reason a0 S v) (ρri S v) := by
  show SimK B_gc_reason 0 [some (.ref a0)] [] S v (F_gc_reason a0 S v) _
  unfold F_gc_reason
  refine sim_grd fun h1 => ?_
  refine sim_seg [(.aload_n 0, 0, 0, 0), (.getfield 180, 5, 2, 0)] [] (q := 4) (L' := [some (.ref a0)]) (st' := [.int (gi v a0 2)]) (v1 := v) (by decide +kernel) rfl ⟨h1, trivial⟩ ?_
  exact sim_iret (by decide +kernel) rfl rfl rfl
def B_ck_timeOfAging : bd := (⟨"GateCounter$Clock", "timeOfAging", "()I"⟩, prog_2_method_10_code, 1, (some .int), [], 0, 1)
theorem m_ck_timeOfAging : mV B_ck_timeOfAging 0 0 := ⟨⟨⟨by decide +kernel, Or.inl rfl⟩, rfl, (List.mem_of_getElem? (i := 1110) (by decide +kernel)), by decide +kernel, (List.mem_of_getElem? (i := 60) (by decide +kernel)), ⟨by decide, by decide⟩, by decide⟩, rfl, (by unfold nar; decide +kernel), (List.mem_of_getElem? (i := 1109) (by decide +kernel)), rfl, (List.mem_of_getElem? (i := 42) (by decide +kernel))⟩
noncomputable def F_ck_timeOfAging (a0 : Nat) (S : shp) (v : vl) : Option Int32 :=
  grd (kin S a0 = some (0, 0)) <| (F_ma_floorDiv ((gi v a0 3) + ((J 99) * (gi v a0 1))) (J 1000) S v).bind fun x2 => some ((((gi v a0 4) + ((J 99) * (gi v a0 0))) + x2))
theorem ok_ck_timeOfAging (a0 : Nat) (S : shp) (v : vl) : SimK B_ck_timeOfAging 0 (entB (bN B_ck_timeOfAging) [.ref a0]) [] S v (F_ck_timeOfAging a0 S v) (ρri S v) := by
  show SimK B_ck_timeOfAging 0 [some (.ref a0)] [] S v (F_ck_timeOfAging a0 S v) _
  unfold F_ck_timeOfAging
  refine sim_grd fun h1 => ?_
  refine sim_seg [(.aload_n 0, 0, 0, 0), (.getfield 24, 0, 4, 0), (.bipush 99, 0, 0, 99), (.aload_n 0, 0, 0, 0), (.getfield 11, 0, 0, 0), (.imul, 0, 0, 0), (.iadd, 0, 0, 0), (.aload_n 0, 0, 0, 0), (.getfield 21, 0, 3, 0), (.bipush 99, 0, 0, 99), (.aload_n 0, 0, 0, 0), (.getfield 15, 0, 1, 0)] [] (q := 22) (L' := [some (.ref a0)]) (st' := [.int (gi v a0 1), .int (J 99), .int (gi v a0 3), .int ((gi v a0 4) + ((J 99) * (gi v a0 0)))]) (v1 := v) (by decide +kernel) rfl ⟨h1, h1, h1, h1, trivial⟩ ?_
  refine sim_seg [(.imul, 0, 0, 0), (.iadd, 0, 0, 0), (.sipush 1000, 0, 0, 1000)] [] (q := 27) (L' := [some (.ref a0)]) (st' := [.int (J 1000), .int ((gi v a0 3) + ((J 99) * (gi v a0 1))), .int ((gi v a0 4) + ((J 99) * (gi v a0 0)))]) (v1 := v) (by decide +kernel) rfl trivial ?_
  refine sc_ri (pc3 := 30) (cf_S (idx := 41) [.int ((gi v a0 3) + ((J 99) * (gi v a0 1))), .int (J 1000)] m_ma_floorDiv ⟨by decide, by decide⟩ (List.mem_of_getElem? (i := 925) (by decide +kernel)) rfl (Nat.le_of_ble_eq_true rfl) (by decide +kernel) (Nat.le_of_ble_eq_true rfl) rfl) (ok_ma_floorDiv ((gi v a0 3) + ((J 99) * (gi v a0 1))) (J 1000) S v) rfl (fun x2 => ?_)
  refine sim_seg [(.iadd, 0, 0, 0)] [] (q := 31) (L' := [some (.ref a0)]) (st' := [.int (((gi v a0 4) + ((J 99) * (gi v a0 0))) + x2)]) (v1 := v) (by decide +kernel) rfl trivial ?_
  exact sim_iret (by decide +kernel) rfl rfl rfl
def B_ck_passTo : bd := (⟨"GateCounter$Clock", "passTo", "(I)V"⟩, prog_2_method_8_code, 3, none, [], 0, 3)
theorem m_ck_passTo : mV B_ck_passTo 0 1 := ⟨⟨⟨by decide +kernel, Or.inl rfl⟩, rfl, (List.mem_of_getElem? (i := 1105) (by decide +kernel)), by decide +kernel, (List.mem_of_getElem? (i := 60) (by decide +kernel)), ⟨by decide, by decide⟩, by decide⟩, rfl, (by unfold nar; decide +kernel), (List.mem_of_getElem? (i := 1103) (by decide +kernel)), rfl, (List.mem_of_getElem? (i := 1104) (by decide +kernel))⟩
noncomputable def Y_ck_passTo_2 (N : Nat)  (i2 : vl → Nat → Int32 → Int32 → Option vl) (S : shp) (v : vl) (p0 : Nat) (p1 : Int32) (p2 : Int32) : Option vl :=
  (if p2 < (J 2000000) then grd (kin S p0 = some (0, 0)) <| (if p1 < (gi v p0 4) then some (v) else (if ((gi v p0 5) - (gi v p0 5) / (J 100) * (J 100)) = (J 0) then (F_ck_timeOfAging p0 S v).bind fun x2 => (if p1 < x2 then (F_ck_tick p0 S v).bind fun w3 => i2 w3 p0 p1 (p2 + (J 1)) else (F_ck_leap p0 S v).bind fun w4 => (F_ck_tick p0 S w4).bind fun w5 => i2 w5 p0 p1 (p2 + (J 1))) else (F_ck_tick p0 S v).bind fun w6 => i2 w6 p0 p1 (p2 + (J 1)))) else some (v))
noncomputable def K_ck_passTo_2 (N : Nat)  (n : Nat) (S : shp) : vl → Nat → Int32 → Int32 → Option vl :=
  Nat.rec (motive := fun _ => vl → Nat → Int32 → Int32 → Option vl) (fun _ _ _ _ => none) (fun _ i => Y_ck_passTo_2 N  i S) n
theorem sY_ck_passTo_2 (N : Nat)  (i2 : vl → Nat → Int32 → Int32 → Option vl) (S : shp)  (j2 : ∀ (v : vl) (p0 : Nat) (p1 : Int32) (p2 : Int32), SimK B_ck_passTo 2 [some (.ref p0), some (.int p1), some (.int p2)] [] S v (i2 v p0 p1 p2) (ρpv S)) (v : vl) (p0 : Nat) (p1 : Int32) (p2 : Int32) : SimK B_ck_passTo 2 [some (.ref p0), some (.int p1), some (.int p2)] [] S v (Y_ck_passTo_2 N  i2 S v p0 p1 p2) (ρpv S) := by
  unfold Y_ck_passTo_2
  refine sim_seg [(.iload_n 2, 0, 0, 0), (.ldc 56, 0, 0, 2000000)] [] (q := 5) (L' := [some (.ref p0), some (.int p1), some (.int p2)]) (st' := [.int (J 2000000), .int p2]) (v1 := v) (by decide +kernel) rfl trivial ?_
  refine sim_ge (o := 43) (tg := 48) (f := 8) (by decide +kernel) rfl rfl (fun _ => ?_) (fun _ => ?_)
  · refine sim_grd fun h1 => ?_
    refine sim_seg [(.aload_n 0, 0, 0, 0), (.getfield 24, 0, 4, 0), (.iload_n 1, 0, 0, 0)] [] (q := 13) (L' := [some (.ref p0), some (.int p1), some (.int p2)]) (st' := [.int p1, .int (gi v p0 4)]) (v1 := v) (by decide +kernel) rfl ⟨h1, trivial⟩ ?_
    refine sim_gt (o := 35) (tg := 48) (f := 16) (by decide +kernel) rfl rfl (fun _ => ?_) (fun _ => ?_)
    · exact sim_vret (by decide +kernel) rfl rfl
    · refine sim_seg [(.aload_n 0, 0, 0, 0), (.getfield 27, 0, 5, 0), (.bipush 100, 0, 0, 100), (.irem, 0, 0, 0)] [] (q := 23) (L' := [some (.ref p0), some (.int p1), some (.int p2)]) (st' := [.int ((gi v p0 5) - (gi v p0 5) / (J 100) * (J 100))]) (v1 := v) (by decide +kernel) rfl ⟨h1, (by decide), trivial⟩ ?_
      refine sim_ne0 (o := 15) (tg := 38) (f := 26) (by decide +kernel) rfl rfl (fun _ => ?_) (fun _ => ?_)
      · refine sim_seg [(.aload_n 0, 0, 0, 0)] [] (q := 27) (L' := [some (.ref p0), some (.int p1), some (.int p2)]) (st' := [.ref p0]) (v1 := v) (by decide +kernel) rfl trivial ?_
        refine sc_ri (pc3 := 30) (cf_V (idx := 57) (ci := 0) [] m_ck_timeOfAging (by decide) ⟨by decide, by decide⟩ (List.mem_of_getElem? (i := 1107) (by decide +kernel)) rfl (Nat.le_of_ble_eq_true rfl) h1 (by decide +kernel) (Nat.le_of_ble_eq_true rfl) rfl) (ok_ck_timeOfAging p0 S v) rfl (fun x2 => ?_)
        refine sim_seg [(.iload_n 1, 0, 0, 0)] [] (q := 31) (L' := [some (.ref p0), some (.int p1), some (.int p2)]) (st' := [.int p1, .int x2]) (v1 := v) (by decide +kernel) rfl trivial ?_
        refine sim_gt (o := 7) (tg := 38) (f := 34) (by decide +kernel) rfl rfl (fun _ => ?_) (fun _ => ?_)
        · refine sim_seg [(.aload_n 0, 0, 0, 0)] [] (q := 39) (L' := [some (.ref p0), some (.int p1), some (.int p2)]) (st' := [.ref p0]) (v1 := v) (by decide +kernel) rfl trivial ?_
          refine sc_pv (pc3 := 42) (cf_V (idx := 53) (ci := 0) [] m_ck_tick (by decide) ⟨by decide, by decide⟩ (List.mem_of_getElem? (i := 958) (by decide +kernel)) rfl (Nat.le_of_ble_eq_true rfl) h1 (by decide +kernel) (Nat.le_of_ble_eq_true rfl) rfl) (ok_ck_tick p0 S v) rfl (fun w3 => ?_)
          refine sim_seg [(.iinc 2 1, 0, 0, 1)] [] (q := 45) (L' := [some (.ref p0), some (.int p1), some (.int (p2 + (J 1)))]) (st' := []) (v1 := w3) (by decide +kernel) rfl trivial ?_
          refine sim_seg [(.goto (-43), 0, 0, 0)] [] (q := 2) (L' := [some (.ref p0), some (.int p1), some (.int (p2 + (J 1)))]) (st' := []) (v1 := w3) (by decide +kernel) rfl trivial ?_
          exact j2 w3 p0 p1 (p2 + (J 1))
        · refine sim_seg [(.aload_n 0, 0, 0, 0)] [] (q := 35) (L' := [some (.ref p0), some (.int p1), some (.int p2)]) (st' := [.ref p0]) (v1 := v) (by decide +kernel) rfl trivial ?_
          refine sc_pv (pc3 := 38) (cf_V (idx := 50) (ci := 0) [] m_ck_leap (by decide) ⟨by decide, by decide⟩ (List.mem_of_getElem? (i := 954) (by decide +kernel)) rfl (Nat.le_of_ble_eq_true rfl) h1 (by decide +kernel) (Nat.le_of_ble_eq_true rfl) rfl) (ok_ck_leap p0 S v) rfl (fun w4 => ?_)
          refine sim_seg [(.aload_n 0, 0, 0, 0)] [] (q := 39) (L' := [some (.ref p0), some (.int p1), some (.int p2)]) (st' := [.ref p0]) (v1 := w4) (by decide +kernel) rfl trivial ?_
          refine sc_pv (pc3 := 42) (cf_V (idx := 53) (ci := 0) [] m_ck_tick (by decide) ⟨by decide, by decide⟩ (List.mem_of_getElem? (i := 958) (by decide +kernel)) rfl (Nat.le_of_ble_eq_true rfl) h1 (by decide +kernel) (Nat.le_of_ble_eq_true rfl) rfl) (ok_ck_tick p0 S w4) rfl (fun w5 => ?_)
          refine sim_seg [(.iinc 2 1, 0, 0, 1)] [] (q := 45) (L' := [some (.ref p0), some (.int p1), some (.int (p2 + (J 1)))]) (st' := []) (v1 := w5) (by decide +kernel) rfl trivial ?_
          refine sim_seg [(.goto (-43), 0, 0, 0)] [] (q := 2) (L' := [some (.ref p0), some (.int p1), some (.int (p2 + (J 1)))]) (st' := []) (v1 := w5) (by decide +kernel) rfl trivial ?_
          exact j2 w5 p0 p1 (p2 + (J 1))
      · refine sim_seg [(.aload_n 0, 0, 0, 0)] [] (q := 39) (L' := [some (.ref p0), some (.int p1), some (.int p2)]) (st' := [.ref p0]) (v1 := v) (by decide +kernel) rfl trivial ?_
        refine sc_pv (pc3 := 42) (cf_V (idx := 53) (ci := 0) [] m_ck_tick (by decide) ⟨by decide, by decide⟩ (List.mem_of_getElem? (i := 958) (by decide +kernel)) rfl (Nat.le_of_ble_eq_true rfl) h1 (by decide +kernel) (Nat.le_of_ble_eq_true rfl) rfl) (ok_ck_tick p0 S v) rfl (fun w6 => ?_)
        refine sim_seg [(.iinc 2 1, 0, 0, 1)] [] (q := 45) (L' := [some (.ref p0), some (.int p1), some (.int (p2 + (J 1)))]) (st' := []) (v1 := w6) (by decide +kernel) rfl trivial ?_
        refine sim_seg [(.goto (-43), 0, 0, 0)] [] (q := 2) (L' := [some (.ref p0), some (.int p1), some (.int (p2 + (J 1)))]) (st' := []) (v1 := w6) (by decide +kernel) rfl trivial ?_
        exact j2 w6 p0 p1 (p2 + (J 1))
  · exact sim_vret (by decide +kernel) rfl rfl
theorem sR_ck_passTo_2 (N : Nat)  (S : shp)  (n : Nat) : ∀ (v : vl) (p0 : Nat) (p1 : Int32) (p2 : Int32), SimK B_ck_passTo 2 [some (.ref p0), some (.int p1), some (.int p2)] [] S v (K_ck_passTo_2 N  n S v p0 p1 p2) (ρpv S) := by
  induction n with
  | zero => intro v p0 p1 p2; exact sim_none
  | succ k ih => intro v p0 p1 p2; exact sY_ck_passTo_2 N   _ S  ih v p0 p1 p2
theorem sK_ck_passTo_2 (N : Nat)  (n : Nat) (S : shp) (v : vl) (p0 : Nat) (p1 : Int32) (p2 : Int32) : SimK B_ck_passTo 2 [some (.ref p0), some (.int p1), some (.int p2)] [] S v (K_ck_passTo_2 N  n S v p0 p1 p2) (ρpv S) := sR_ck_passTo_2 N   S  n  v p0 p1 p2
noncomputable def F_ck_passTo (N : Nat) (a0 : Nat) (b1 : Int32) (S : shp) (v : vl) : Option vl :=
  K_ck_passTo_2 N  N S v a0 b1 (J 0)
theorem ok_ck_passTo (N : Nat) (a0 : Nat) (b1 : Int32) (S : shp) (v : vl) : SimK B_ck_passTo 0 (entB (bN B_ck_passTo) [.ref a0, .int b1]) [] S v (F_ck_passTo N a0 b1 S v) (ρpv S) := by
  show SimK B_ck_passTo 0 [some (.ref a0), some (.int b1), none] [] S v (F_ck_passTo N a0 b1 S v) _
  unfold F_ck_passTo
  refine sim_seg [(.iconst 0, 0, 0, 0), (.istore_n 2, 0, 0, 0)] [] (q := 2) (L' := [some (.ref a0), some (.int b1), some (.int (J 0))]) (st' := []) (v1 := v) (by decide +kernel) rfl trivial ?_
  exact sK_ck_passTo_2 N N S v a0 b1 (J 0)
def B_sg_reasonForNoEnd : bd := (⟨"GateCounter$Signal", "reasonForNoEnd", "()I"⟩, prog_5_method_17_code, 2, (some .int), [], 3, 0)
theorem m_sg_reasonForNoEnd : mV B_sg_reasonForNoEnd 3 0 := ⟨⟨⟨by decide +kernel, Or.inl rfl⟩, rfl, (List.mem_of_getElem? (i := 1101) (by decide +kernel)), by decide +kernel, (List.mem_of_getElem? (i := 61) (by decide +kernel)), ⟨by decide, by decide⟩, by decide⟩, rfl, (by unfold nar; decide +kernel), (List.mem_of_getElem? (i := 1099) (by decide +kernel)), rfl, (List.mem_of_getElem? (i := 1100) (by decide +kernel))⟩
noncomputable def F_sg_reasonForNoEnd (a0 : Nat) (S : shp) (v : vl) : Option Int32 :=
  grd (kin S a0 = some (0, 3)) <| (if (gi v a0 9) < (gi v a0 8) then (gr S a0 11).bind fun r2 => grd (kin S r2 = some (1, 8)) <| grd (vp_in ((gi v a0 8) - (J 1)) (alen S r2)) <| lt (gi v r2 (Int32.toNatClampNeg ((gi v a0 8) - (J 1)))) fun x6 => (if (J 0) < x6 then some ((J 1)) else some ((J 2))) else (if (J 0) < (gi v a0 0) then some ((J 1)) else some ((J 2))))
theorem ok_sg_reasonForNoEnd (a0 : Nat) (S : shp) (v : vl) : SimK B_sg_reasonForNoEnd 0 (entB (bN B_sg_reasonForNoEnd) [.ref a0]) [] S v (F_sg_reasonForNoEnd a0 S v) (ρri S v) := by
  show SimK B_sg_reasonForNoEnd 0 [some (.ref a0), none] [] S v (F_sg_reasonForNoEnd a0 S v) _
  unfold F_sg_reasonForNoEnd
  refine sim_grd fun h1 => ?_
  refine sim_seg [(.aload_n 0, 0, 0, 0), (.getfield 38, 3, 9, 0), (.aload_n 0, 0, 0, 0), (.getfield 35, 3, 8, 0)] [] (q := 8) (L' := [some (.ref a0), none]) (st' := [.int (gi v a0 8), .int (gi v a0 9)]) (v1 := v) (by decide +kernel) rfl ⟨h1, h1, trivial⟩ ?_
  refine sim_ge (o := 17) (tg := 25) (f := 11) (by decide +kernel) rfl rfl (fun _ => ?_) (fun _ => ?_)
  · refine sim_bind fun r2 h3 => ?_
    refine sim_grd fun h4 => ?_
    refine sim_grd fun h5 => ?_
    refine sim_seg [(.aload_n 0, 0, 0, 0), (.getfield 15, 3, 11, 0), (.aload_n 0, 0, 0, 0), (.getfield 35, 3, 8, 0), (.iconst 1, 0, 0, 1), (.isub, 0, 0, 0), (.iaload, 0, 0, 0), (.goto 7, 0, 0, 0), (.istore_n 1, 0, 0, 0)] [r2] (q := 30) (L' := [some (.ref a0), some (.int (gi v r2 (Int32.toNatClampNeg ((gi v a0 8) - (J 1)))))]) (st' := []) (v1 := v) (by decide +kernel) rfl ⟨⟨h1, h3⟩, h1, ⟨(Or.inl (kin_alen h4)), h5⟩, trivial⟩ ?_
    refine sim_nm (gi v r2 (Int32.toNatClampNeg ((gi v a0 8) - (J 1)))) (fun x6 => [some (.ref a0), some (.int x6)]) (fun x6 => []) (fun x6 => ?_) rfl rfl
    refine sim_seg [(.iload_n 1, 0, 0, 0)] [] (q := 31) (L' := [some (.ref a0), some (.int x6)]) (st' := [.int x6]) (v1 := v) (by decide +kernel) rfl trivial ?_
    refine sim_le0 (o := 7) (tg := 38) (f := 34) (by decide +kernel) rfl rfl (fun _ => ?_) (fun _ => ?_)
    · refine sim_seg [(.iconst 1, 0, 0, 1), (.goto 4, 0, 0, 0)] [] (q := 39) (L' := [some (.ref a0), some (.int x6)]) (st' := [.int (J 1)]) (v1 := v) (by decide +kernel) rfl trivial ?_
      exact sim_iret (by decide +kernel) rfl rfl rfl
    · refine sim_seg [(.iconst 2, 0, 0, 2)] [] (q := 39) (L' := [some (.ref a0), some (.int x6)]) (st' := [.int (J 2)]) (v1 := v) (by decide +kernel) rfl trivial ?_
      exact sim_iret (by decide +kernel) rfl rfl rfl
  · refine sim_seg [(.aload_n 0, 0, 0, 0), (.getfield 18, 3, 0, 0), (.istore_n 1, 0, 0, 0)] [] (q := 30) (L' := [some (.ref a0), some (.int (gi v a0 0))]) (st' := []) (v1 := v) (by decide +kernel) rfl ⟨h1, trivial⟩ ?_
    refine sim_seg [(.iload_n 1, 0, 0, 0)] [] (q := 31) (L' := [some (.ref a0), some (.int (gi v a0 0))]) (st' := [.int (gi v a0 0)]) (v1 := v) (by decide +kernel) rfl trivial ?_
    refine sim_le0 (o := 7) (tg := 38) (f := 34) (by decide +kernel) rfl rfl (fun _ => ?_) (fun _ => ?_)
    · refine sim_seg [(.iconst 1, 0, 0, 1), (.goto 4, 0, 0, 0)] [] (q := 39) (L' := [some (.ref a0), some (.int (gi v a0 0))]) (st' := [.int (J 1)]) (v1 := v) (by decide +kernel) rfl trivial ?_
      exact sim_iret (by decide +kernel) rfl rfl rfl
    · refine sim_seg [(.iconst 2, 0, 0, 2)] [] (q := 39) (L' := [some (.ref a0), some (.int (gi v a0 0))]) (st' := [.int (J 2)]) (v1 := v) (by decide +kernel) rfl trivial ?_
      exact sim_iret (by decide +kernel) rfl rfl rfl
def B_sg_timeAfter : bd := (⟨"GateCounter$Signal", "timeAfter", "(I)I"⟩, prog_5_method_16_code, 7, (some .int), [], 3, 1)
theorem m_sg_timeAfter : mV B_sg_timeAfter 3 1 := ⟨⟨⟨by decide +kernel, Or.inl rfl⟩, rfl, (List.mem_of_getElem? (i := 1096) (by decide +kernel)), by decide +kernel, (List.mem_of_getElem? (i := 61) (by decide +kernel)), ⟨by decide, by decide⟩, by decide⟩, rfl, (by unfold nar; decide +kernel), (List.mem_of_getElem? (i := 1094) (by decide +kernel)), rfl, (List.mem_of_getElem? (i := 1095) (by decide +kernel))⟩
noncomputable def Y_sg_timeAfter_19 (N : Nat)  (i19 : Nat → Int32 → Int32 → Int32 → Int32 → Option Int32) (S : shp) (v : vl)  (p0 : Nat) (p2 : Int32) (p3 : Int32) (p4 : Int32) (p5 : Int32) : Option Int32 :=
  grd (kin S p0 = some (0, 3)) <| (if p5 < (gi v p0 8) then (gr S p0 10).bind fun r3 => grd (kin S r3 = some (1, 8)) <| grd (vp_in p5 (alen S r3)) <| (F_sg_edgesUpTo ((gi v r3 (Int32.toNatClampNeg p5)) - (J 1)) p3 p4 S v).bind fun x7 => (if x7 < p2 then (F_sg_firstEdge p0 p5 S v).bind fun x8 => (gr S p0 11).bind fun r9 => grd (kin S r9 = some (1, 8)) <| grd (vp_in p5 (alen S r9)) <| lt (gi v r9 (Int32.toNatClampNeg p5)) fun x13 => i19 p0 (p2 - x7) x8 x13 (p5 + (J 1)) else some ((p3 + ((p2 - (J 1)) * p4)))) else (F_sg_edgesUpTo (J 2000000) p3 p4 S v).bind fun x14 => (if x14 < p2 then some ((J (-1))) else some ((p3 + ((p2 - (J 1)) * p4)))))
noncomputable def K_sg_timeAfter_19 (N : Nat)  (n : Nat) (S : shp) (v : vl) : Nat → Int32 → Int32 → Int32 → Int32 → Option Int32 :=
  Nat.rec (motive := fun _ => Nat → Int32 → Int32 → Int32 → Int32 → Option Int32) (fun _ _ _ _ _ => none) (fun _ i => Y_sg_timeAfter_19 N  i S v) n
theorem sY_sg_timeAfter_19 (N : Nat)  (i19 : Nat → Int32 → Int32 → Int32 → Int32 → Option Int32) (S : shp) (v : vl)  (j19 : ∀ (p0 : Nat) (p2 : Int32) (p3 : Int32) (p4 : Int32) (p5 : Int32), SimK B_sg_timeAfter 19 [some (.ref p0), none, some (.int p2), some (.int p3), some (.int p4), some (.int p5), none] [] S v (i19 p0 p2 p3 p4 p5) (ρri S v))  (p0 : Nat) (p2 : Int32) (p3 : Int32) (p4 : Int32) (p5 : Int32) : SimK B_sg_timeAfter 19 [some (.ref p0), none, some (.int p2), some (.int p3), some (.int p4), some (.int p5), none] [] S v (Y_sg_timeAfter_19 N  i19 S v  p0 p2 p3 p4 p5) (ρri S v) := by
  unfold Y_sg_timeAfter_19
  refine sim_grd fun h2 => ?_
  refine sim_seg [(.iload 5, 0, 0, 0), (.aload_n 0, 0, 0, 0), (.getfield 35, 3, 8, 0)] [] (q := 25) (L' := [some (.ref p0), none, some (.int p2), some (.int p3), some (.int p4), some (.int p5), none]) (st' := [.int (gi v p0 8), .int p5]) (v1 := v) (by decide +kernel) rfl ⟨h2, trivial⟩ ?_
  refine sim_ge (o := 62) (tg := 87) (f := 28) (by decide +kernel) rfl rfl (fun _ => ?_) (fun _ => ?_)
  · refine sim_bind fun r3 h4 => ?_
    refine sim_grd fun h5 => ?_
    refine sim_grd fun h6 => ?_
    refine sim_seg [(.aload_n 0, 0, 0, 0), (.getfield 9, 3, 10, 0), (.iload 5, 0, 0, 0), (.iaload, 0, 0, 0), (.iconst 1, 0, 0, 1), (.isub, 0, 0, 0), (.iload_n 3, 0, 0, 0), (.iload 4, 0, 0, 0)] [r3] (q := 40) (L' := [some (.ref p0), none, some (.int p2), some (.int p3), some (.int p4), some (.int p5), none]) (st' := [.int p4, .int p3, .int ((gi v r3 (Int32.toNatClampNeg p5)) - (J 1))]) (v1 := v) (by decide +kernel) rfl ⟨⟨h2, h4⟩, ⟨(Or.inl (kin_alen h5)), h6⟩, trivial⟩ ?_
    refine sc_ri (pc3 := 43) (cf_S (idx := 70) [.int ((gi v r3 (Int32.toNatClampNeg p5)) - (J 1)), .int p3, .int p4] m_sg_edgesUpTo ⟨by decide, by decide⟩ (List.mem_of_getElem? (i := 943) (by decide +kernel)) rfl (Nat.le_of_ble_eq_true rfl) (by decide +kernel) (Nat.le_of_ble_eq_true rfl) rfl) (ok_sg_edgesUpTo ((gi v r3 (Int32.toNatClampNeg p5)) - (J 1)) p3 p4 S v) rfl (fun x7 => ?_)
    refine sim_seg [(.istore 6, 0, 0, 0)] [] (q := 45) (L' := [some (.ref p0), none, some (.int p2), some (.int p3), some (.int p4), some (.int p5), some (.int x7)]) (st' := []) (v1 := v) (by decide +kernel) rfl trivial ?_
    refine sim_seg [(.iload_n 2, 0, 0, 0), (.iload 6, 0, 0, 0)] [] (q := 48) (L' := [some (.ref p0), none, some (.int p2), some (.int p3), some (.int p4), some (.int p5), some (.int x7)]) (st' := [.int x7, .int p2]) (v1 := v) (by decide +kernel) rfl trivial ?_
    refine sim_gt (o := 12) (tg := 60) (f := 51) (by decide +kernel) rfl rfl (fun _ => ?_) (fun _ => ?_)
    · refine sim_seg [(.iload_n 2, 0, 0, 0), (.iload 6, 0, 0, 0), (.isub, 0, 0, 0), (.istore_n 2, 0, 0, 0)] [] (q := 65) (L' := [some (.ref p0), none, some (.int (p2 - x7)), some (.int p3), some (.int p4), some (.int p5), some (.int x7)]) (st' := []) (v1 := v) (by decide +kernel) rfl trivial ?_
      refine sim_seg [(.aload_n 0, 0, 0, 0), (.iload 5, 0, 0, 0)] [] (q := 68) (L' := [some (.ref p0), none, some (.int (p2 - x7)), some (.int p3), some (.int p4), some (.int p5), some (.int x7)]) (st' := [.int p5, .ref p0]) (v1 := v) (by decide +kernel) rfl trivial ?_
      refine sc_ri (pc3 := 71) (cf_V (idx := 66) (ci := 3) [.int p5] m_sg_firstEdge (by decide) ⟨by decide, by decide⟩ (List.mem_of_getElem? (i := 946) (by decide +kernel)) rfl (Nat.le_of_ble_eq_true rfl) h2 (by decide +kernel) (Nat.le_of_ble_eq_true rfl) rfl) (ok_sg_firstEdge p0 p5 S v) rfl (fun x8 => ?_)
      refine sim_seg [(.istore_n 3, 0, 0, 0)] [] (q := 72) (L' := [some (.ref p0), none, some (.int (p2 - x7)), some (.int x8), some (.int p4), some (.int p5), some (.int x7)]) (st' := []) (v1 := v) (by decide +kernel) rfl trivial ?_
      refine sim_bind fun r9 h10 => ?_
      refine sim_grd fun h11 => ?_
      refine sim_grd fun h12 => ?_
      refine sim_seg [(.aload_n 0, 0, 0, 0), (.getfield 15, 3, 11, 0), (.iload 5, 0, 0, 0), (.iaload, 0, 0, 0), (.istore 4, 0, 0, 0)] [r9] (q := 81) (L' := [some (.ref p0), none, some (.int (p2 - x7)), some (.int x8), some (.int (gi v r9 (Int32.toNatClampNeg p5))), some (.int p5), some (.int x7)]) (st' := []) (v1 := v) (by decide +kernel) rfl ⟨⟨h2, h10⟩, ⟨(Or.inl (kin_alen h11)), h12⟩, trivial⟩ ?_
      refine sim_nm (gi v r9 (Int32.toNatClampNeg p5)) (fun x13 => [some (.ref p0), none, some (.int (p2 - x7)), some (.int x8), some (.int x13), some (.int p5), some (.int x7)]) (fun x13 => []) (fun x13 => ?_) rfl rfl
      refine sim_seg [(.iinc 5 1, 0, 0, 1)] [] (q := 84) (L' := [some (.ref p0), none, some (.int (p2 - x7)), some (.int x8), some (.int x13), some (.int (p5 + (J 1))), some (.int x7)]) (st' := []) (v1 := v) (by decide +kernel) rfl trivial ?_
      refine sim_seg [(.goto (-65), 0, 0, 0)] [] (q := 19) (L' := [some (.ref p0), none, some (.int (p2 - x7)), some (.int x8), some (.int x13), some (.int (p5 + (J 1))), some (.int x7)]) (st' := []) (v1 := v) (by decide +kernel) rfl trivial ?_
      exact sim_wk (L0 := [some (.ref p0), none, some (.int (p2 - x7)), some (.int x8), some (.int x13), some (.int (p5 + (J 1))), none]) ⟨rfl, rfl, rfl, rfl, rfl, trivial⟩ (j19 p0 (p2 - x7) x8 x13 (p5 + (J 1)))
    · refine sim_seg [(.iload_n 3, 0, 0, 0), (.iload_n 2, 0, 0, 0), (.iconst 1, 0, 0, 1), (.isub, 0, 0, 0), (.iload 4, 0, 0, 0), (.imul, 0, 0, 0), (.iadd, 0, 0, 0)] [] (q := 59) (L' := [some (.ref p0), none, some (.int p2), some (.int p3), some (.int p4), some (.int p5), some (.int x7)]) (st' := [.int (p3 + ((p2 - (J 1)) * p4))]) (v1 := v) (by decide +kernel) rfl trivial ?_
      exact sim_iret (by decide +kernel) rfl rfl rfl
  · refine sim_seg [(.iload_n 2, 0, 0, 0), (.ldc 77, 0, 0, 2000000), (.iload_n 3, 0, 0, 0), (.iload 4, 0, 0, 0)] [] (q := 93) (L' := [some (.ref p0), none, some (.int p2), some (.int p3), some (.int p4), some (.int p5), none]) (st' := [.int p4, .int p3, .int (J 2000000), .int p2]) (v1 := v) (by decide +kernel) rfl trivial ?_
    refine sc_ri (pc3 := 96) (cf_S (idx := 70) [.int (J 2000000), .int p3, .int p4] m_sg_edgesUpTo ⟨by decide, by decide⟩ (List.mem_of_getElem? (i := 943) (by decide +kernel)) rfl (Nat.le_of_ble_eq_true rfl) (by decide +kernel) (Nat.le_of_ble_eq_true rfl) rfl) (ok_sg_edgesUpTo (J 2000000) p3 p4 S v) rfl (fun x14 => ?_)
    refine sim_gt (o := 14) (tg := 110) (f := 99) (by decide +kernel) rfl rfl (fun _ => ?_) (fun _ => ?_)
    · refine sim_seg [(.iconst (-1), 0, 0, (-1))] [] (q := 111) (L' := [some (.ref p0), none, some (.int p2), some (.int p3), some (.int p4), some (.int p5), none]) (st' := [.int (J (-1))]) (v1 := v) (by decide +kernel) rfl trivial ?_
      exact sim_iret (by decide +kernel) rfl rfl rfl
    · refine sim_seg [(.iload_n 3, 0, 0, 0), (.iload_n 2, 0, 0, 0), (.iconst 1, 0, 0, 1), (.isub, 0, 0, 0), (.iload 4, 0, 0, 0), (.imul, 0, 0, 0), (.iadd, 0, 0, 0), (.goto 4, 0, 0, 0)] [] (q := 111) (L' := [some (.ref p0), none, some (.int p2), some (.int p3), some (.int p4), some (.int p5), none]) (st' := [.int (p3 + ((p2 - (J 1)) * p4))]) (v1 := v) (by decide +kernel) rfl trivial ?_
      exact sim_iret (by decide +kernel) rfl rfl rfl
theorem sR_sg_timeAfter_19 (N : Nat)  (S : shp) (v : vl)  (n : Nat) : ∀  (p0 : Nat) (p2 : Int32) (p3 : Int32) (p4 : Int32) (p5 : Int32), SimK B_sg_timeAfter 19 [some (.ref p0), none, some (.int p2), some (.int p3), some (.int p4), some (.int p5), none] [] S v (K_sg_timeAfter_19 N  n S v  p0 p2 p3 p4 p5) (ρri S v) := by
  induction n with
  | zero => intro p0 p2 p3 p4 p5; exact sim_none
  | succ k ih => intro p0 p2 p3 p4 p5; exact sY_sg_timeAfter_19 N   _ S v  ih p0 p2 p3 p4 p5
theorem sK_sg_timeAfter_19 (N : Nat)  (n : Nat) (S : shp) (v : vl) (p0 : Nat) (p2 : Int32) (p3 : Int32) (p4 : Int32) (p5 : Int32) : SimK B_sg_timeAfter 19 [some (.ref p0), none, some (.int p2), some (.int p3), some (.int p4), some (.int p5), none] [] S v (K_sg_timeAfter_19 N  n S v  p0 p2 p3 p4 p5) (ρri S v) := sR_sg_timeAfter_19 N   S v  n  p0 p2 p3 p4 p5
noncomputable def F_sg_timeAfter (N : Nat) (a0 : Nat) (b1 : Int32) (S : shp) (v : vl) : Option Int32 :=
  grd (kin S a0 = some (0, 3)) <| K_sg_timeAfter_19 N  N S v a0 b1 (gi v a0 1) (gi v a0 0) (gi v a0 9)
theorem ok_sg_timeAfter (N : Nat) (a0 : Nat) (b1 : Int32) (S : shp) (v : vl) : SimK B_sg_timeAfter 0 (entB (bN B_sg_timeAfter) [.ref a0, .int b1]) [] S v (F_sg_timeAfter N a0 b1 S v) (ρri S v) := by
  show SimK B_sg_timeAfter 0 [some (.ref a0), some (.int b1), none, none, none, none, none] [] S v (F_sg_timeAfter N a0 b1 S v) _
  unfold F_sg_timeAfter
  refine sim_seg [(.iload_n 1, 0, 0, 0), (.istore_n 2, 0, 0, 0)] [] (q := 2) (L' := [some (.ref a0), some (.int b1), some (.int b1), none, none, none, none]) (st' := []) (v1 := v) (by decide +kernel) rfl trivial ?_
  refine sim_grd fun h1 => ?_
  refine sim_seg [(.aload_n 0, 0, 0, 0), (.getfield 22, 3, 1, 0), (.istore_n 3, 0, 0, 0)] [] (q := 7) (L' := [some (.ref a0), some (.int b1), some (.int b1), some (.int (gi v a0 1)), none, none, none]) (st' := []) (v1 := v) (by decide +kernel) rfl ⟨h1, trivial⟩ ?_
  refine sim_seg [(.aload_n 0, 0, 0, 0), (.getfield 18, 3, 0, 0), (.istore 4, 0, 0, 0)] [] (q := 13) (L' := [some (.ref a0), some (.int b1), some (.int b1), some (.int (gi v a0 1)), some (.int (gi v a0 0)), none, none]) (st' := []) (v1 := v) (by decide +kernel) rfl ⟨h1, trivial⟩ ?_
  refine sim_seg [(.aload_n 0, 0, 0, 0), (.getfield 38, 3, 9, 0), (.istore 5, 0, 0, 0)] [] (q := 19) (L' := [some (.ref a0), some (.int b1), some (.int b1), some (.int (gi v a0 1)), some (.int (gi v a0 0)), some (.int (gi v a0 9)), none]) (st' := []) (v1 := v) (by decide +kernel) rfl ⟨h1, trivial⟩ ?_
  exact sim_wk (L0 := [some (.ref a0), none, some (.int b1), some (.int (gi v a0 1)), some (.int (gi v a0 0)), some (.int (gi v a0 9)), none]) ⟨rfl, rfl, rfl, rfl, rfl, trivial⟩ (sK_sg_timeAfter_19 N N S v a0 b1 (gi v a0 1) (gi v a0 0) (gi v a0 9))
def B_sg_timeOfOutput : bd := (⟨"GateCounter$Signal", "timeOfOutput", "(I)I"⟩, prog_5_method_15_code, 2, (some .int), [], 3, 2)
theorem m_sg_timeOfOutput : mV B_sg_timeOfOutput 3 1 := ⟨⟨⟨by decide +kernel, Or.inl rfl⟩, rfl, (List.mem_of_getElem? (i := 1092) (by decide +kernel)), by decide +kernel, (List.mem_of_getElem? (i := 61) (by decide +kernel)), ⟨by decide, by decide⟩, by decide⟩, rfl, (by unfold nar; decide +kernel), (List.mem_of_getElem? (i := 1090) (by decide +kernel)), rfl, (List.mem_of_getElem? (i := 1091) (by decide +kernel))⟩
noncomputable def F_sg_timeOfOutput (N : Nat) (a0 : Nat) (b1 : Int32) (S : shp) (v : vl) : Option Int32 :=
  grd (kin S a0 = some (0, 3)) <| (F_sg_timeAfter N a0 ((b1 * (gi v a0 4)) - (gi v a0 5)) S v).bind fun x2 => some (x2)
theorem ok_sg_timeOfOutput (N : Nat) (a0 : Nat) (b1 : Int32) (S : shp) (v : vl) : SimK B_sg_timeOfOutput 0 (entB (bN B_sg_timeOfOutput) [.ref a0, .int b1]) [] S v (F_sg_timeOfOutput N a0 b1 S v) (ρri S v) := by
  show SimK B_sg_timeOfOutput 0 [some (.ref a0), some (.int b1)] [] S v (F_sg_timeOfOutput N a0 b1 S v) _
  unfold F_sg_timeOfOutput
  refine sim_grd fun h1 => ?_
  refine sim_seg [(.aload_n 0, 0, 0, 0), (.iload_n 1, 0, 0, 0), (.aload_n 0, 0, 0, 0), (.getfield 41, 3, 4, 0), (.imul, 0, 0, 0), (.aload_n 0, 0, 0, 0), (.getfield 44, 3, 5, 0), (.isub, 0, 0, 0)] [] (q := 12) (L' := [some (.ref a0), some (.int b1)]) (st' := [.int ((b1 * (gi v a0 4)) - (gi v a0 5)), .ref a0]) (v1 := v) (by decide +kernel) rfl ⟨h1, h1, trivial⟩ ?_
  refine sc_ri (pc3 := 15) (cf_V (idx := 74) (ci := 3) [.int ((b1 * (gi v a0 4)) - (gi v a0 5))] m_sg_timeAfter (by decide) ⟨by decide, by decide⟩ (List.mem_of_getElem? (i := 1093) (by decide +kernel)) rfl (Nat.le_of_ble_eq_true rfl) h1 (by decide +kernel) (Nat.le_of_ble_eq_true rfl) rfl) (ok_sg_timeAfter N a0 ((b1 * (gi v a0 4)) - (gi v a0 5)) S v) rfl (fun x2 => ?_)
  exact sim_iret (by decide +kernel) rfl rfl rfl
def B_sg_passTo : bd := (⟨"GateCounter$Signal", "passTo", "(I)V"⟩, prog_5_method_9_code, 2, none, [], 3, 3)
theorem m_sg_passTo : mV B_sg_passTo 3 1 := ⟨⟨⟨by decide +kernel, Or.inl rfl⟩, rfl, (List.mem_of_getElem? (i := 1118) (by decide +kernel)), by decide +kernel, (List.mem_of_getElem? (i := 61) (by decide +kernel)), ⟨by decide, by decide⟩, by decide⟩, rfl, (by unfold nar; decide +kernel), (List.mem_of_getElem? (i := 1116) (by decide +kernel)), rfl, (List.mem_of_getElem? (i := 1117) (by decide +kernel))⟩
noncomputable def F_sg_passTo (N : Nat) (a0 : Nat) (b1 : Int32) (S : shp) (v : vl) : Option vl :=
  grd (kin S a0 = some (0, 3)) <| (F_sg_pass N a0 b1 b1 S v).bind fun w2 => some (w2)
theorem ok_sg_passTo (N : Nat) (a0 : Nat) (b1 : Int32) (S : shp) (v : vl) : SimK B_sg_passTo 0 (entB (bN B_sg_passTo) [.ref a0, .int b1]) [] S v (F_sg_passTo N a0 b1 S v) (ρpv S) := by
  show SimK B_sg_passTo 0 [some (.ref a0), some (.int b1)] [] S v (F_sg_passTo N a0 b1 S v) _
  unfold F_sg_passTo
  refine sim_seg [(.aload_n 0, 0, 0, 0), (.iload_n 1, 0, 0, 0), (.iload_n 1, 0, 0, 0)] [] (q := 3) (L' := [some (.ref a0), some (.int b1)]) (st' := [.int b1, .int b1, .ref a0]) (v1 := v) (by decide +kernel) rfl trivial ?_
  refine sim_grd fun h1 => ?_
  refine sc_pv (pc3 := 6) (cf_V (idx := 59) (ci := 3) [.int b1, .int b1] m_sg_pass (by decide) ⟨by decide, by decide⟩ (List.mem_of_getElem? (i := 935) (by decide +kernel)) rfl (Nat.le_of_ble_eq_true rfl) h1 (by decide +kernel) (Nat.le_of_ble_eq_true rfl) rfl) (ok_sg_pass N a0 b1 b1 S v) rfl (fun w2 => ?_)
  exact sim_vret (by decide +kernel) rfl rfl
def B_st_passTo : bd := (⟨"GateCounter$State", "passTo", "(I)V"⟩, prog_6_method_4_code, 2, none, [], 4, 4)
theorem m_st_passTo : mV B_st_passTo 4 1 := ⟨⟨⟨by decide +kernel, Or.inl rfl⟩, rfl, (List.mem_of_getElem? (i := 1114) (by decide +kernel)), by decide +kernel, (List.mem_of_getElem? (i := 59) (by decide +kernel)), ⟨by decide, by decide⟩, by decide⟩, rfl, (by unfold nar; decide +kernel), (List.mem_of_getElem? (i := 1112) (by decide +kernel)), rfl, (List.mem_of_getElem? (i := 1113) (by decide +kernel))⟩
noncomputable def F_st_passTo (N : Nat) (a0 : Nat) (b1 : Int32) (S : shp) (v : vl) : Option vl :=
  grd (kin S a0 = some (0, 4)) <| (gr S a0 6).bind fun r2 => grd (kin S r2 = some (0, 0)) <| (F_ck_passTo N r2 b1 S v).bind fun w5 => (gr S a0 7).bind fun r6 => grd (kin S r6 = some (0, 3)) <| (F_sg_passTo N r6 b1 S w5).bind fun w9 => lt (si w9 a0 0 b1) fun w10 => some (w10)
theorem ok_st_passTo (N : Nat) (a0 : Nat) (b1 : Int32) (S : shp) (v : vl) : SimK B_st_passTo 0 (entB (bN B_st_passTo) [.ref a0, .int b1]) [] S v (F_st_passTo N a0 b1 S v) (ρpv S) := by
  show SimK B_st_passTo 0 [some (.ref a0), some (.int b1)] [] S v (F_st_passTo N a0 b1 S v) _
  unfold F_st_passTo
  refine sim_grd fun h1 => ?_
  refine sim_bind fun r2 h3 => ?_
  refine sim_seg [(.aload_n 0, 0, 0, 0), (.getfield 12, 4, 6, 0), (.iload_n 1, 0, 0, 0)] [r2] (q := 5) (L' := [some (.ref a0), some (.int b1)]) (st' := [.int b1, .ref r2]) (v1 := v) (by decide +kernel) rfl ⟨⟨h1, h3⟩, trivial⟩ ?_
  refine sim_grd fun h4 => ?_
  refine sc_pv (pc3 := 8) (cf_V (idx := 65) (ci := 0) [.int b1] m_ck_passTo (by decide) ⟨by decide, by decide⟩ (List.mem_of_getElem? (i := 1102) (by decide +kernel)) rfl (Nat.le_of_ble_eq_true rfl) h4 (by decide +kernel) (Nat.le_of_ble_eq_true rfl) rfl) (ok_ck_passTo N r2 b1 S v) rfl (fun w5 => ?_)
  refine sim_bind fun r6 h7 => ?_
  refine sim_seg [(.aload_n 0, 0, 0, 0), (.getfield 21, 4, 7, 0), (.iload_n 1, 0, 0, 0)] [r6] (q := 13) (L' := [some (.ref a0), some (.int b1)]) (st' := [.int b1, .ref r6]) (v1 := w5) (by decide +kernel) rfl ⟨⟨h1, h7⟩, trivial⟩ ?_
  refine sim_grd fun h8 => ?_
  refine sc_pv (pc3 := 16) (cf_V (idx := 69) (ci := 3) [.int b1] m_sg_passTo (by decide) ⟨by decide, by decide⟩ (List.mem_of_getElem? (i := 1115) (by decide +kernel)) rfl (Nat.le_of_ble_eq_true rfl) h8 (by decide +kernel) (Nat.le_of_ble_eq_true rfl) rfl) (ok_sg_passTo N r6 b1 S w5) rfl (fun w9 => ?_)
  refine sim_seg [(.aload_n 0, 0, 0, 0), (.iload_n 1, 0, 0, 0), (.putfield 34, 4, 0, 0)] [] (q := 21) (L' := [some (.ref a0), some (.int b1)]) (st' := []) (v1 := (si w9 a0 0 b1)) (by decide +kernel) rfl ⟨h1, trivial⟩ ?_
  refine sim_lt (x := (si w9 a0 0 b1)) ?_
  generalize (si w9 a0 0 b1) = w10
  exact sim_vret (by decide +kernel) rfl rfl
def B_st_measureByPeriod : bd := (⟨"GateCounter$State", "measureByPeriod", "()I"⟩, prog_6_method_7_code, 6, (some .int), [], 4, 5)
theorem m_st_measureByPeriod : mV B_st_measureByPeriod 4 0 := ⟨⟨⟨by decide +kernel, Or.inl rfl⟩, rfl, (List.mem_of_getElem? (i := 1088) (by decide +kernel)), by decide +kernel, (List.mem_of_getElem? (i := 59) (by decide +kernel)), ⟨by decide, by decide⟩, by decide⟩, rfl, (by unfold nar; decide +kernel), (List.mem_of_getElem? (i := 1086) (by decide +kernel)), rfl, (List.mem_of_getElem? (i := 1087) (by decide +kernel))⟩
noncomputable def F_st_measureByPeriod (N : Nat) (a0 : Nat) (S : shp) (v : vl) : Option (Int32 × shp × vl) :=
  grd (kin S a0 = some (0, 4)) <| (gr S a0 7).bind fun r2 => grd (kin S r2 = some (0, 3)) <| (F_sg_timeOfOutput N r2 (J 1) S v).bind fun x5 => (F_sg_timeOfOutput N r2 ((J 1) + (gi v a0 2)) S v).bind fun x6 => (if x6 = (J (-1)) then (F_sg_reasonForNoEnd r2 S v).bind fun x7 => some ((x7, S, v)) else (gr S a0 6).bind fun r8 => grd (kin S r8 = some (0, 0)) <| (F_ck_passTo N r8 x5 S v).bind fun w11 => (F_st_passTo N a0 x6 S w11).bind fun w12 => lt ((gi w12 r8 5) - (gi w11 r8 5)) fun x13 => (if x13 = (J 0) then some (((J 3), S, w12)) else (F_st_valueOf a0 (gi w12 a0 2) x13 (gi w12 a0 3) S w12).bind fun x14 => grd (kin S (nxt S) = none) <| lt3 (grow S (0, 1) (fTN 1).2.1) (nxt S) (zero w12 (nxt S)) fun S16 r17 v18 => grd (kin S16 a0 = some (0, 4)) <| (F_ms_init r17 (J 1) x5 x6 x13 x14 (gi v18 a0 2) (gi v18 a0 3) S16 v18).bind fun w22 => (F_st_keep N a0 r17 S16 w22).bind fun (S23, w24) => some (((J 0), S23, w24))))
theorem ok_st_measureByPeriod (N : Nat) (a0 : Nat) (S : shp) (v : vl) : SimK B_st_measureByPeriod 0 (entB (bN B_st_measureByPeriod) [.ref a0]) [] S v (F_st_measureByPeriod N a0 S v) (ρgi) := by
  show SimK B_st_measureByPeriod 0 [some (.ref a0), none, none, none, none, none] [] S v (F_st_measureByPeriod N a0 S v) _
  unfold F_st_measureByPeriod
  refine sim_grd fun h1 => ?_
  refine sim_bind fun r2 h3 => ?_
  refine sim_seg [(.aload_n 0, 0, 0, 0), (.getfield 21, 4, 7, 0), (.iconst 1, 0, 0, 1)] [r2] (q := 5) (L' := [some (.ref a0), none, none, none, none, none]) (st' := [.int (J 1), .ref r2]) (v1 := v) (by decide +kernel) rfl ⟨⟨h1, h3⟩, trivial⟩ ?_
  refine sim_grd fun h4 => ?_
  refine sc_ri (pc3 := 8) (cf_V (idx := 104) (ci := 3) [.int (J 1)] m_sg_timeOfOutput (by decide) ⟨by decide, by decide⟩ (List.mem_of_getElem? (i := 1089) (by decide +kernel)) rfl (Nat.le_of_ble_eq_true rfl) h4 (by decide +kernel) (Nat.le_of_ble_eq_true rfl) rfl) (ok_sg_timeOfOutput N r2 (J 1) S v) rfl (fun x5 => ?_)
  refine sim_seg [(.istore_n 1, 0, 0, 0)] [] (q := 9) (L' := [some (.ref a0), some (.int x5), none, none, none, none]) (st' := []) (v1 := v) (by decide +kernel) rfl trivial ?_
  refine sim_seg [(.aload_n 0, 0, 0, 0), (.getfield 21, 4, 7, 0), (.iconst 1, 0, 0, 1), (.aload_n 0, 0, 0, 0), (.getfield 41, 4, 2, 0), (.iadd, 0, 0, 0)] [r2] (q := 19) (L' := [some (.ref a0), some (.int x5), none, none, none, none]) (st' := [.int ((J 1) + (gi v a0 2)), .ref r2]) (v1 := v) (by decide +kernel) rfl ⟨⟨h1, h3⟩, h1, trivial⟩ ?_
  refine sc_ri (pc3 := 22) (cf_V (idx := 104) (ci := 3) [.int ((J 1) + (gi v a0 2))] m_sg_timeOfOutput (by decide) ⟨by decide, by decide⟩ (List.mem_of_getElem? (i := 1089) (by decide +kernel)) rfl (Nat.le_of_ble_eq_true rfl) h4 (by decide +kernel) (Nat.le_of_ble_eq_true rfl) rfl) (ok_sg_timeOfOutput N r2 ((J 1) + (gi v a0 2)) S v) rfl (fun x6 => ?_)
  refine sim_seg [(.istore_n 2, 0, 0, 0)] [] (q := 23) (L' := [some (.ref a0), some (.int x5), some (.int x6), none, none, none]) (st' := []) (v1 := v) (by decide +kernel) rfl trivial ?_
  refine sim_seg [(.iload_n 2, 0, 0, 0), (.iconst (-1), 0, 0, (-1))] [] (q := 25) (L' := [some (.ref a0), some (.int x5), some (.int x6), none, none, none]) (st' := [.int (J (-1)), .int x6]) (v1 := v) (by decide +kernel) rfl trivial ?_
  refine sim_ne (o := 11) (tg := 36) (f := 28) (by decide +kernel) rfl rfl (fun _ => ?_) (fun _ => ?_)
  · refine sim_seg [(.aload_n 0, 0, 0, 0), (.getfield 21, 4, 7, 0)] [r2] (q := 32) (L' := [some (.ref a0), some (.int x5), some (.int x6), none, none, none]) (st' := [.ref r2]) (v1 := v) (by decide +kernel) rfl ⟨⟨h1, h3⟩, trivial⟩ ?_
    refine sc_ri (pc3 := 35) (cf_V (idx := 108) (ci := 3) [] m_sg_reasonForNoEnd (by decide) ⟨by decide, by decide⟩ (List.mem_of_getElem? (i := 1098) (by decide +kernel)) rfl (Nat.le_of_ble_eq_true rfl) h4 (by decide +kernel) (Nat.le_of_ble_eq_true rfl) rfl) (ok_sg_reasonForNoEnd r2 S v) rfl (fun x7 => ?_)
    exact sim_iret (by decide +kernel) rfl rfl rfl
  · refine sim_bind fun r8 h9 => ?_
    refine sim_seg [(.aload_n 0, 0, 0, 0), (.getfield 12, 4, 6, 0), (.iload_n 1, 0, 0, 0)] [r8] (q := 41) (L' := [some (.ref a0), some (.int x5), some (.int x6), none, none, none]) (st' := [.int x5, .ref r8]) (v1 := v) (by decide +kernel) rfl ⟨⟨h1, h9⟩, trivial⟩ ?_
    refine sim_grd fun h10 => ?_
    refine sc_pv (pc3 := 44) (cf_V (idx := 65) (ci := 0) [.int x5] m_ck_passTo (by decide) ⟨by decide, by decide⟩ (List.mem_of_getElem? (i := 1102) (by decide +kernel)) rfl (Nat.le_of_ble_eq_true rfl) h10 (by decide +kernel) (Nat.le_of_ble_eq_true rfl) rfl) (ok_ck_passTo N r8 x5 S v) rfl (fun w11 => ?_)
    refine sim_seg [(.aload_n 0, 0, 0, 0), (.getfield 12, 4, 6, 0), (.getfield 112, 0, 5, 0), (.istore_n 3, 0, 0, 0)] [r8] (q := 52) (L' := [some (.ref a0), some (.int x5), some (.int x6), some (.int (gi w11 r8 5)), none, none]) (st' := []) (v1 := w11) (by decide +kernel) rfl ⟨⟨h1, h9⟩, h10, trivial⟩ ?_
    refine sim_seg [(.aload_n 0, 0, 0, 0), (.iload_n 2, 0, 0, 0)] [] (q := 54) (L' := [some (.ref a0), some (.int x5), some (.int x6), some (.int (gi w11 r8 5)), none, none]) (st' := [.int x6, .ref a0]) (v1 := w11) (by decide +kernel) rfl trivial ?_
    refine sc_pv (pc3 := 57) (cf_V (idx := 115) (ci := 4) [.int x6] m_st_passTo (by decide) ⟨by decide, by decide⟩ (List.mem_of_getElem? (i := 1111) (by decide +kernel)) rfl (Nat.le_of_ble_eq_true rfl) h1 (by decide +kernel) (Nat.le_of_ble_eq_true rfl) rfl) (ok_st_passTo N a0 x6 S w11) rfl (fun w12 => ?_)
    refine sim_seg [(.aload_n 0, 0, 0, 0), (.getfield 12, 4, 6, 0), (.getfield 112, 0, 5, 0), (.iload_n 3, 0, 0, 0), (.isub, 0, 0, 0), (.istore 4, 0, 0, 0)] [r8] (q := 68) (L' := [some (.ref a0), some (.int x5), some (.int x6), some (.int (gi w11 r8 5)), some (.int ((gi w12 r8 5) - (gi w11 r8 5))), none]) (st' := []) (v1 := w12) (by decide +kernel) rfl ⟨⟨h1, h9⟩, h10, trivial⟩ ?_
    refine sim_nm ((gi w12 r8 5) - (gi w11 r8 5)) (fun x13 => [some (.ref a0), some (.int x5), some (.int x6), some (.int (gi w11 r8 5)), some (.int x13), none]) (fun x13 => []) (fun x13 => ?_) rfl rfl
    refine sim_seg [(.iload 4, 0, 0, 0)] [] (q := 70) (L' := [some (.ref a0), some (.int x5), some (.int x6), some (.int (gi w11 r8 5)), some (.int x13), none]) (st' := [.int x13]) (v1 := w12) (by decide +kernel) rfl trivial ?_
    refine sim_ne0 (o := 5) (tg := 75) (f := 73) (by decide +kernel) rfl rfl (fun _ => ?_) (fun _ => ?_)
    · refine sim_seg [(.iconst 3, 0, 0, 3)] [] (q := 74) (L' := [some (.ref a0), some (.int x5), some (.int x6), some (.int (gi w11 r8 5)), some (.int x13), none]) (st' := [.int (J 3)]) (v1 := w12) (by decide +kernel) rfl trivial ?_
      exact sim_iret (by decide +kernel) rfl rfl rfl
    · refine sim_seg [(.aload_n 0, 0, 0, 0), (.aload_n 0, 0, 0, 0), (.getfield 41, 4, 2, 0), (.iload 4, 0, 0, 0), (.aload_n 0, 0, 0, 0), (.getfield 44, 4, 3, 0)] [] (q := 86) (L' := [some (.ref a0), some (.int x5), some (.int x6), some (.int (gi w11 r8 5)), some (.int x13), none]) (st' := [.int (gi w12 a0 3), .int x13, .int (gi w12 a0 2), .ref a0]) (v1 := w12) (by decide +kernel) rfl ⟨h1, h1, trivial⟩ ?_
      refine sc_ri (pc3 := 89) (cf_V (idx := 93) (ci := 4) [.int (gi w12 a0 2), .int x13, .int (gi w12 a0 3)] m_st_valueOf (by decide) ⟨by decide, by decide⟩ (List.mem_of_getElem? (i := 959) (by decide +kernel)) rfl (Nat.le_of_ble_eq_true rfl) h1 (by decide +kernel) (Nat.le_of_ble_eq_true rfl) rfl) (ok_st_valueOf a0 (gi w12 a0 2) x13 (gi w12 a0 3) S w12) rfl (fun x14 => ?_)
      refine sim_seg [(.istore 5, 0, 0, 0)] [] (q := 91) (L' := [some (.ref a0), some (.int x5), some (.int x6), some (.int (gi w11 r8 5)), some (.int x13), some (.int x14)]) (st' := []) (v1 := w12) (by decide +kernel) rfl trivial ?_
      refine sim_seg [(.aload_n 0, 0, 0, 0)] [] (q := 92) (L' := [some (.ref a0), some (.int x5), some (.int x6), some (.int (gi w11 r8 5)), some (.int x13), some (.int x14)]) (st' := [.ref a0]) (v1 := w12) (by decide +kernel) rfl trivial ?_
      refine sim_grd fun h15 => ?_
      refine sim_new (idx := 25) (ci := 1) (pc3 := 95) (by decide) (by decide +kernel) (List.mem_of_getElem? (i := 184) (by decide +kernel)) (List.mem_of_getElem? (i := 964) (by decide +kernel)) (List.mem_of_getElem? (i := 66) (by decide +kernel)) rfl h15 (fun S16 r17 v18 h19 h20 => ?_)
      refine sim_grd fun h21 => ?_
      refine sim_seg [(.dup, 0, 0, 0), (.iconst 1, 0, 0, 1), (.iload_n 1, 0, 0, 0), (.iload_n 2, 0, 0, 0), (.iload 4, 0, 0, 0), (.iload 5, 0, 0, 0), (.aload_n 0, 0, 0, 0), (.getfield 41, 4, 2, 0), (.aload_n 0, 0, 0, 0), (.getfield 44, 4, 3, 0)] [] (q := 111) (L' := [some (.ref a0), some (.int x5), some (.int x6), some (.int (gi w11 r8 5)), some (.int x13), some (.int x14)]) (st' := [.int (gi v18 a0 3), .int (gi v18 a0 2), .int x14, .int x13, .int x6, .int x5, .int (J 1), .ref r17, .ref r17, .ref a0]) (v1 := v18) (by decide +kernel) rfl ⟨h21, h21, trivial⟩ ?_
      refine sc_pv (pc3 := 114) (cf_I (idx := 97) [.int (J 1), .int x5, .int x6, .int x13, .int x14, .int (gi v18 a0 2), .int (gi v18 a0 3)] m_ms_init ⟨by decide, by decide⟩ (List.mem_of_getElem? (i := 965) (by decide +kernel)) rfl (Nat.le_of_ble_eq_true rfl) (by decide +kernel) (Nat.le_of_ble_eq_true rfl) rfl) (ok_ms_init r17 (J 1) x5 x6 x13 x14 (gi v18 a0 2) (gi v18 a0 3) S16 v18) rfl (fun w22 => ?_)
      refine sc_gv (pc3 := 117) (cf_V (idx := 100) (ci := 4) [.ref r17] m_st_keep (by decide) ⟨by decide, by decide⟩ (List.mem_of_getElem? (i := 991) (by decide +kernel)) rfl (Nat.le_of_ble_eq_true rfl) h21 (by decide +kernel) (Nat.le_of_ble_eq_true rfl) rfl) (ok_st_keep N a0 r17 S16 w22) rfl (fun S23 w24 h25 => ?_)
      refine sim_seg [(.iconst 0, 0, 0, 0)] [] (q := 118) (L' := [some (.ref a0), some (.int x5), some (.int x6), some (.int (gi w11 r8 5)), some (.int x13), some (.int x14)]) (st' := [.int (J 0)]) (v1 := w24) (by decide +kernel) rfl trivial ?_
      exact sim_iret (by decide +kernel) rfl rfl rfl
def B_gc_period : bd := (⟨"GateCounter", "period", "()I"⟩, prog_1_method_50_code, 2, (some .int), [], 5, 7)
theorem m_gc_period : mV B_gc_period 5 0 := ⟨⟨⟨by decide +kernel, Or.inl rfl⟩, rfl, (List.mem_of_getElem? (i := 1084) (by decide +kernel)), by decide +kernel, (List.mem_of_getElem? (i := 57) (by decide +kernel)), ⟨by decide, by decide⟩, by decide⟩, rfl, (by unfold nar; decide +kernel), (List.mem_of_getElem? (i := 1082) (by decide +kernel)), rfl, (List.mem_of_getElem? (i := 1083) (by decide +kernel))⟩
noncomputable def F_gc_period (N : Nat) (a0 : Nat) (S : shp) (v : vl) : Option (Int32 × shp × vl) :=
  grd (kin S a0 = some (0, 5)) <| (gr S a0 7).bind fun r2 => (F_gc_fresh N a0 r2 S v).bind fun (q4, S5, w6) => oc2 q4 none fun r8 => grd (kin S5 r8 = some (0, 4)) <| (F_st_measureByPeriod N r8 S5 w6).bind fun (x10, S11, w12) => (if x10 = (J 0) then (gr S11 a0 7).bind fun r14 => (F_gc_accept N a0 r14 S11 w12).bind fun (x16, S17, w18) => some ((x16, S17, w18)) else (F_gc_refuse a0 x10 (J 0) S11 w12).bind fun (x20, w21) => some ((x20, S11, w21)))
theorem ok_gc_period (N : Nat) (a0 : Nat) (S : shp) (v : vl) : SimK B_gc_period 0 (entB (bN B_gc_period) [.ref a0]) [] S v (F_gc_period N a0 S v) (ρgi) := by
  show SimK B_gc_period 0 [some (.ref a0), none] [] S v (F_gc_period N a0 S v) _
  unfold F_gc_period
  refine sim_grd fun h1 => ?_
  refine sim_bind fun r2 h3 => ?_
  refine sim_seg [(.aload_n 0, 0, 0, 0), (.aload_n 0, 0, 0, 0), (.getfield 33, 5, 7, 0)] [r2] (q := 5) (L' := [some (.ref a0), none]) (st' := [.ref r2, .ref a0]) (v1 := v) (by decide +kernel) rfl ⟨⟨h1, h3⟩, trivial⟩ ?_
  refine sc_gq (pc3 := 8) (cf_V (idx := 196) (ci := 5) [.ref r2] m_gc_fresh (by decide) ⟨by decide, by decide⟩ (List.mem_of_getElem? (i := 899) (by decide +kernel)) rfl (Nat.le_of_ble_eq_true rfl) h1 (by decide +kernel) (Nat.le_of_ble_eq_true rfl) rfl) (ok_gc_fresh N a0 r2 S v) rfl (fun q4 S5 w6 h7 => ?_)
  refine sim_oc2 (fun _ => sim_none) (fun r8 _ => ?_)
  refine sim_grd fun h9 => ?_
  refine sc_gi (pc3 := 11) (cf_V (idx := 238) (ci := 4) [] m_st_measureByPeriod (by decide) ⟨by decide, by decide⟩ (List.mem_of_getElem? (i := 1085) (by decide +kernel)) rfl (Nat.le_of_ble_eq_true rfl) h9 (by decide +kernel) (Nat.le_of_ble_eq_true rfl) rfl) (ok_st_measureByPeriod N r8 S5 w6) rfl (fun x10 S11 w12 h13 => ?_)
  refine sim_seg [(.istore_n 1, 0, 0, 0)] [] (q := 12) (L' := [some (.ref a0), some (.int x10)]) (st' := []) (v1 := w12) (by decide +kernel) rfl trivial ?_
  refine sim_seg [(.iload_n 1, 0, 0, 0)] [] (q := 13) (L' := [some (.ref a0), some (.int x10)]) (st' := [.int x10]) (v1 := w12) (by decide +kernel) rfl trivial ?_
  refine sim_ne0 (o := 14) (tg := 27) (f := 16) (by decide +kernel) rfl rfl (fun _ => ?_) (fun _ => ?_)
  · refine sim_bind fun r14 h15 => ?_
    refine sim_seg [(.aload_n 0, 0, 0, 0), (.aload_n 0, 0, 0, 0), (.getfield 33, 5, 7, 0)] [r14] (q := 21) (L' := [some (.ref a0), some (.int x10)]) (st' := [.ref r14, .ref a0]) (v1 := w12) (by decide +kernel) rfl ⟨⟨(h13.2.2.2.2 _ _ (h7.2.2.2.2 _ _ h1)), h15⟩, trivial⟩ ?_
    refine sc_gi (pc3 := 24) (cf_V (idx := 302) (ci := 5) [.ref r14] m_gc_accept (by decide) ⟨by decide, by decide⟩ (List.mem_of_getElem? (i := 1000) (by decide +kernel)) rfl (Nat.le_of_ble_eq_true rfl) (h13.2.2.2.2 _ _ (h7.2.2.2.2 _ _ h1)) (by decide +kernel) (Nat.le_of_ble_eq_true rfl) rfl) (ok_gc_accept N a0 r14 S11 w12) rfl (fun x16 S17 w18 h19 => ?_)
    refine sim_seg [(.goto 9, 0, 0, 0)] [] (q := 33) (L' := [some (.ref a0), some (.int x10)]) (st' := [.int x16]) (v1 := w18) (by decide +kernel) rfl trivial ?_
    exact sim_iret (by decide +kernel) rfl rfl rfl
  · refine sim_seg [(.aload_n 0, 0, 0, 0), (.iload_n 1, 0, 0, 0), (.iconst 0, 0, 0, 0)] [] (q := 30) (L' := [some (.ref a0), some (.int x10)]) (st' := [.int (J 0), .int x10, .ref a0]) (v1 := w12) (by decide +kernel) rfl trivial ?_
    refine sc_pi (pc3 := 33) (cf_V (idx := 296) (ci := 5) [.int x10, .int (J 0)] m_gc_refuse (by decide) ⟨by decide, by decide⟩ (List.mem_of_getElem? (i := 1029) (by decide +kernel)) rfl (Nat.le_of_ble_eq_true rfl) (h13.2.2.2.2 _ _ (h7.2.2.2.2 _ _ h1)) (by decide +kernel) (Nat.le_of_ble_eq_true rfl) rfl) (ok_gc_refuse a0 x10 (J 0) S11 w12) rfl (fun x20 w21 => ?_)
    exact sim_iret (by decide +kernel) rfl rfl rfl
def B_gc_run : bd := (⟨"GateCounter", "run", "(I)I"⟩, prog_1_method_46_code, 3, (some .int), [], 5, 8)
theorem m_gc_run : mV B_gc_run 5 1 := ⟨⟨⟨by decide +kernel, Or.inl rfl⟩, rfl, (List.mem_of_getElem? (i := 1126) (by decide +kernel)), by decide +kernel, (List.mem_of_getElem? (i := 57) (by decide +kernel)), ⟨by decide, by decide⟩, by decide⟩, rfl, (by unfold nar; decide +kernel), (List.mem_of_getElem? (i := 1124) (by decide +kernel)), rfl, (List.mem_of_getElem? (i := 1125) (by decide +kernel))⟩
noncomputable def F_gc_run (N : Nat) (a0 : Nat) (b1 : Int32) (S : shp) (v : vl) : Option (Nat ⊕ (Int32 × shp × vl)) :=
  bx (F_gc_requireWithin b1 (J 1) (J 100000) S v) (fun k0 => some (.inl k0)) fun _ => grd (kin S a0 = some (0, 5)) <| (gr S a0 5).bind fun r2 => grd (kin S r2 = some (0, 4)) <| (if (J 2000000) < ((gi v r2 0) + b1) then some (.inl 2) else (F_gc_keepForUndo N a0 S v).bind fun (S5, w6) => (gr S5 a0 5).bind fun r8 => grd (kin S5 r8 = some (0, 4)) <| (gr S5 r8 7).bind fun r11 => grd (kin S5 r11 = some (0, 3)) <| (F_st_passTo N r8 ((gi w6 r8 0) + b1) S5 w6).bind fun w14 => some (.inr (((gi w14 r11 2) - (gi w6 r11 2)), S5, w14)))
theorem ok_gc_run (N : Nat) (a0 : Nat) (b1 : Int32) (S : shp) (v : vl) : SimK B_gc_run 0 (entB (bN B_gc_run) [.ref a0, .int b1]) [] S v (F_gc_run N a0 b1 S v) (ρzi S v) := by
  show SimK B_gc_run 0 [some (.ref a0), some (.int b1), none] [] S v (F_gc_run N a0 b1 S v) _
  unfold F_gc_run
  refine sim_seg [(.iload_n 1, 0, 0, 0), (.iconst 1, 0, 0, 1), (.ldc 192, 0, 0, 100000)] [] (q := 4) (L' := [some (.ref a0), some (.int b1), none]) (st' := [.int (J 100000), .int (J 1), .int b1]) (v1 := v) (by decide +kernel) rfl trivial ?_
  refine sc_xv (pc3 := 7) (cf_S (idx := 170) [.int b1, .int (J 1), .int (J 100000)] m_gc_requireWithin ⟨by decide, by decide⟩ (List.mem_of_getElem? (i := 1066) (by decide +kernel)) rfl (Nat.le_of_ble_eq_true rfl) (by decide +kernel) (Nat.le_of_ble_eq_true rfl) rfl) (ok_gc_requireWithin b1 (J 1) (J 100000) S v) rfl rfl (fun k0 b hb => by cases hb; rfl) (fun _ => ?_)
  refine sim_grd fun h1 => ?_
  refine sim_bind fun r2 h3 => ?_
  refine sim_grd fun h4 => ?_
  refine sim_seg [(.aload_n 0, 0, 0, 0), (.getfield 26, 5, 5, 0), (.getfield 84, 4, 0, 0), (.iload_n 1, 0, 0, 0), (.iadd, 0, 0, 0), (.ldc 216, 0, 0, 2000000)] [r2] (q := 18) (L' := [some (.ref a0), some (.int b1), none]) (st' := [.int (J 2000000), .int ((gi v r2 0) + b1)]) (v1 := v) (by decide +kernel) rfl ⟨⟨h1, h3⟩, h4, trivial⟩ ?_
  refine sim_le (o := 11) (tg := 29) (f := 21) (by decide +kernel) rfl rfl (fun _ => ?_) (fun _ => ?_)
  · exact sim_throw thr2 rfl rfl (by decide) (by decide +kernel) (by decide +kernel) (by decide +kernel) (by decide +kernel) (Nat.le_of_ble_eq_true rfl) rfl
  · refine sim_seg [(.aload_n 0, 0, 0, 0)] [] (q := 30) (L' := [some (.ref a0), some (.int b1), none]) (st' := [.ref a0]) (v1 := v) (by decide +kernel) rfl trivial ?_
    refine sc_gv (pc3 := 33) (cf_V (idx := 289) (ci := 5) [] m_gc_keepForUndo (by decide) ⟨by decide, by decide⟩ (List.mem_of_getElem? (i := 1008) (by decide +kernel)) rfl (Nat.le_of_ble_eq_true rfl) h1 (by decide +kernel) (Nat.le_of_ble_eq_true rfl) rfl) (ok_gc_keepForUndo N a0 S v) rfl (fun S5 w6 h7 => ?_)
    refine sim_bind fun r8 h9 => ?_
    refine sim_grd fun h10 => ?_
    refine sim_bind fun r11 h12 => ?_
    refine sim_grd fun h13 => ?_
    refine sim_seg [(.aload_n 0, 0, 0, 0), (.getfield 26, 5, 5, 0), (.getfield 69, 4, 7, 0), (.getfield 96, 3, 2, 0), (.istore_n 2, 0, 0, 0)] [r8, r11] (q := 44) (L' := [some (.ref a0), some (.int b1), some (.int (gi w6 r11 2))]) (st' := []) (v1 := w6) (by decide +kernel) rfl ⟨⟨(h7.2.2.2.2 _ _ h1), h9⟩, ⟨h10, h12⟩, h13, trivial⟩ ?_
    refine sim_seg [(.aload_n 0, 0, 0, 0), (.getfield 26, 5, 5, 0), (.aload_n 0, 0, 0, 0), (.getfield 26, 5, 5, 0), (.getfield 84, 4, 0, 0), (.iload_n 1, 0, 0, 0), (.iadd, 0, 0, 0)] [r8, r8] (q := 57) (L' := [some (.ref a0), some (.int b1), some (.int (gi w6 r11 2))]) (st' := [.int ((gi w6 r8 0) + b1), .ref r8]) (v1 := w6) (by decide +kernel) rfl ⟨⟨(h7.2.2.2.2 _ _ h1), h9⟩, ⟨(h7.2.2.2.2 _ _ h1), h9⟩, h10, trivial⟩ ?_
    refine sc_pv (pc3 := 60) (cf_V (idx := 292) (ci := 4) [.int ((gi w6 r8 0) + b1)] m_st_passTo (by decide) ⟨by decide, by decide⟩ (List.mem_of_getElem? (i := 1144) (by decide +kernel)) rfl (Nat.le_of_ble_eq_true rfl) h10 (by decide +kernel) (Nat.le_of_ble_eq_true rfl) rfl) (ok_st_passTo N r8 ((gi w6 r8 0) + b1) S5 w6) rfl (fun w14 => ?_)
    refine sim_seg [(.aload_n 0, 0, 0, 0), (.getfield 26, 5, 5, 0), (.getfield 69, 4, 7, 0), (.getfield 96, 3, 2, 0), (.iload_n 2, 0, 0, 0), (.isub, 0, 0, 0)] [r8, r11] (q := 72) (L' := [some (.ref a0), some (.int b1), some (.int (gi w6 r11 2))]) (st' := [.int ((gi w14 r11 2) - (gi w6 r11 2))]) (v1 := w14) (by decide +kernel) rfl ⟨⟨(h7.2.2.2.2 _ _ h1), h9⟩, ⟨h10, h12⟩, h13, trivial⟩ ?_
    exact sim_iret (by decide +kernel) rfl rfl rfl
def B_gc_setPrescale : bd := (⟨"GateCounter", "setPrescale", "(I)I"⟩, prog_1_method_54_code, 3, (some .int), [], 5, 7)
theorem m_gc_setPrescale : mV B_gc_setPrescale 5 1 := ⟨⟨⟨by decide +kernel, Or.inl rfl⟩, rfl, (List.mem_of_getElem? (i := 1148) (by decide +kernel)), by decide +kernel, (List.mem_of_getElem? (i := 57) (by decide +kernel)), ⟨by decide, by decide⟩, by decide⟩, rfl, (by unfold nar; decide +kernel), (List.mem_of_getElem? (i := 1146) (by decide +kernel)), rfl, (List.mem_of_getElem? (i := 1147) (by decide +kernel))⟩
noncomputable def F_gc_setPrescale (N : Nat) (a0 : Nat) (b1 : Int32) (S : shp) (v : vl) : Option (Nat ⊕ (Int32 × shp × vl)) :=
  (F_gc_isPrescale N b1 S v).bind fun x1 => bx (F_gc_require x1 S v) (fun k0 => some (.inl k0)) fun _ => grd (kin S a0 = some (0, 5)) <| (F_gc_keepForUndo N a0 S v).bind fun (S3, w4) => (gr S3 a0 5).bind fun r6 => grd (kin S3 r6 = some (0, 4)) <| (gr S3 r6 7).bind fun r9 => grd (kin S3 r9 = some (0, 3)) <| (F_sg_setUpPrescaler r9 b1 S3 w4).bind fun w12 => some (.inr ((gi w4 r9 4), S3, w12))
theorem ok_gc_setPrescale (N : Nat) (a0 : Nat) (b1 : Int32) (S : shp) (v : vl) : SimK B_gc_setPrescale 0 (entB (bN B_gc_setPrescale) [.ref a0, .int b1]) [] S v (F_gc_setPrescale N a0 b1 S v) (ρzi S v) := by
  show SimK B_gc_setPrescale 0 [some (.ref a0), some (.int b1), none] [] S v (F_gc_setPrescale N a0 b1 S v) _
  unfold F_gc_setPrescale
  refine sim_seg [(.iload_n 1, 0, 0, 0)] [] (q := 1) (L' := [some (.ref a0), some (.int b1), none]) (st' := [.int b1]) (v1 := v) (by decide +kernel) rfl trivial ?_
  refine sc_ri (pc3 := 4) (cf_S (idx := 312) [.int b1] m_gc_isPrescale ⟨by decide, by decide⟩ (List.mem_of_getElem? (i := 1149) (by decide +kernel)) rfl (Nat.le_of_ble_eq_true rfl) (by decide +kernel) (Nat.le_of_ble_eq_true rfl) rfl) (ok_gc_isPrescale N b1 S v) rfl (fun x1 => ?_)
  refine sc_xv (pc3 := 7) (cf_S (idx := 155) [.int x1] m_gc_require ⟨by decide, by decide⟩ (List.mem_of_getElem? (i := 1069) (by decide +kernel)) rfl (Nat.le_of_ble_eq_true rfl) (by decide +kernel) (Nat.le_of_ble_eq_true rfl) rfl) (ok_gc_require x1 S v) rfl rfl (fun k0 b hb => by cases hb; rfl) (fun _ => ?_)
  refine sim_seg [(.aload_n 0, 0, 0, 0)] [] (q := 8) (L' := [some (.ref a0), some (.int b1), none]) (st' := [.ref a0]) (v1 := v) (by decide +kernel) rfl trivial ?_
  refine sim_grd fun h2 => ?_
  refine sc_gv (pc3 := 11) (cf_V (idx := 289) (ci := 5) [] m_gc_keepForUndo (by decide) ⟨by decide, by decide⟩ (List.mem_of_getElem? (i := 1008) (by decide +kernel)) rfl (Nat.le_of_ble_eq_true rfl) h2 (by decide +kernel) (Nat.le_of_ble_eq_true rfl) rfl) (ok_gc_keepForUndo N a0 S v) rfl (fun S3 w4 h5 => ?_)
  refine sim_bind fun r6 h7 => ?_
  refine sim_grd fun h8 => ?_
  refine sim_bind fun r9 h10 => ?_
  refine sim_grd fun h11 => ?_
  refine sim_seg [(.aload_n 0, 0, 0, 0), (.getfield 26, 5, 5, 0), (.getfield 69, 4, 7, 0), (.getfield 121, 3, 4, 0), (.istore_n 2, 0, 0, 0)] [r6, r9] (q := 22) (L' := [some (.ref a0), some (.int b1), some (.int (gi w4 r9 4))]) (st' := []) (v1 := w4) (by decide +kernel) rfl ⟨⟨(h5.2.2.2.2 _ _ h2), h7⟩, ⟨h8, h10⟩, h11, trivial⟩ ?_
  refine sim_seg [(.aload_n 0, 0, 0, 0), (.getfield 26, 5, 5, 0), (.getfield 69, 4, 7, 0), (.iload_n 1, 0, 0, 0)] [r6, r9] (q := 30) (L' := [some (.ref a0), some (.int b1), some (.int (gi w4 r9 4))]) (st' := [.int b1, .ref r9]) (v1 := w4) (by decide +kernel) rfl ⟨⟨(h5.2.2.2.2 _ _ h2), h7⟩, ⟨h8, h10⟩, trivial⟩ ?_
  refine sc_pv (pc3 := 33) (cf_V (idx := 265) (ci := 3) [.int b1] m_sg_setUpPrescaler (by decide) ⟨by decide, by decide⟩ (List.mem_of_getElem? (i := 1150) (by decide +kernel)) rfl (Nat.le_of_ble_eq_true rfl) h11 (by decide +kernel) (Nat.le_of_ble_eq_true rfl) rfl) (ok_sg_setUpPrescaler r9 b1 S3 w4) rfl (fun w12 => ?_)
  refine sim_seg [(.iload_n 2, 0, 0, 0)] [] (q := 34) (L' := [some (.ref a0), some (.int b1), some (.int (gi w4 r9 4))]) (st' := [.int (gi w4 r9 4)]) (v1 := w12) (by decide +kernel) rfl trivial ?_
  exact sim_iret (by decide +kernel) rfl rfl rfl
def B_gc_maySet : bd := (⟨"GateCounter", "maySet", "(II)Z"⟩, prog_1_method_56_code, 2, (some .boolean), [], 5, 0)
theorem m_gc_maySet : mS B_gc_maySet 2 := ⟨⟨⟨by decide +kernel, Or.inl rfl⟩, rfl, (List.mem_of_getElem? (i := 1157) (by decide +kernel)), by decide +kernel, (List.mem_of_getElem? (i := 57) (by decide +kernel)), ⟨by decide, by decide⟩, by decide⟩, rfl, (by unfold nar; decide +kernel), (List.mem_of_getElem? (i := 1156) (by decide +kernel))⟩
noncomputable def F_gc_maySet (b0 : Int32) (b1 : Int32) (S : shp) (v : vl) : Option Int32 :=
  (if b0 = J 1 then (if b1 < (J (-99)) then some ((J 0)) else (if (J 99) < b1 then some ((J 0)) else some ((J 1)))) else if b0 = J 2 then (if b1 < (J (-1)) then some ((J 0)) else (if (J 1) < b1 then some ((J 0)) else some ((J 1)))) else if b0 = J 3 then some ((J 0)) else if b0 = J 4 then (if b1 < (J 1) then some ((J 0)) else (if (J 9999) < b1 then some ((J 0)) else some ((J 1)))) else if b0 = J 5 then (if b1 < (J 1) then some ((J 0)) else (if (J 999) < b1 then some ((J 0)) else some ((J 1)))) else if b0 = J 6 then (if b1 < (J (-99)) then some ((J 0)) else (if (J 99) < b1 then some ((J 0)) else some ((J 1)))) else some ((J 0)))
theorem ok_gc_maySet (b0 : Int32) (b1 : Int32) (S : shp) (v : vl) : SimK B_gc_maySet 0 (entB (bN B_gc_maySet) [.int b0, .int b1]) [] S v (F_gc_maySet b0 b1 S v) (ρri S v) := by
  show SimK B_gc_maySet 0 [some (.int b0), some (.int b1)] [] S v (F_gc_maySet b0 b1 S v) _
  unfold F_gc_maySet
  refine sim_seg [(.iload_n 0, 0, 0, 0)] [] (q := 1) (L' := [some (.int b0), some (.int b1)]) (st' := [.int b0]) (v1 := v) (by decide +kernel) rfl trivial ?_
  refine sim_case (df := 109) (lw := 1) (hg := 6) (offs := #[39, 57, 109, 73, 91, 39]) (len := 39) (z := 1) (o := 39) (tg := 40) (by decide +kernel) rfl rfl (by decide) (fun _ => ?_) (fun h1 => ?_)
  · refine sim_seg [(.iload_n 1, 0, 0, 0), (.bipush (-99), 0, 0, (-99))] [] (q := 43) (L' := [some (.int b0), some (.int b1)]) (st' := [.int (J (-99)), .int b1]) (v1 := v) (by decide +kernel) rfl trivial ?_
    refine sim_lt' (o := 13) (tg := 56) (f := 46) (by decide +kernel) rfl rfl (fun _ => ?_) (fun _ => ?_)
    · refine sim_seg [(.iconst 0, 0, 0, 0)] [] (q := 57) (L' := [some (.int b0), some (.int b1)]) (st' := [.int (J 0)]) (v1 := v) (by decide +kernel) rfl trivial ?_
      exact sim_iret (by decide +kernel) rfl (by decide) rfl
    · refine sim_seg [(.iload_n 1, 0, 0, 0), (.bipush 99, 0, 0, 99)] [] (q := 49) (L' := [some (.int b0), some (.int b1)]) (st' := [.int (J 99), .int b1]) (v1 := v) (by decide +kernel) rfl trivial ?_
      refine sim_gt (o := 7) (tg := 56) (f := 52) (by decide +kernel) rfl rfl (fun _ => ?_) (fun _ => ?_)
      · refine sim_seg [(.iconst 0, 0, 0, 0)] [] (q := 57) (L' := [some (.int b0), some (.int b1)]) (st' := [.int (J 0)]) (v1 := v) (by decide +kernel) rfl trivial ?_
        exact sim_iret (by decide +kernel) rfl (by decide) rfl
      · refine sim_seg [(.iconst 1, 0, 0, 1), (.goto 4, 0, 0, 0)] [] (q := 57) (L' := [some (.int b0), some (.int b1)]) (st' := [.int (J 1)]) (v1 := v) (by decide +kernel) rfl trivial ?_
        exact sim_iret (by decide +kernel) rfl (by decide) rfl
  refine sim_case (df := 109) (lw := 1) (hg := 6) (offs := #[39, 57, 109, 73, 91, 39]) (len := 39) (z := 2) (o := 57) (tg := 58) (by decide +kernel) rfl rfl (by decide) (fun _ => ?_) (fun h2 => ?_)
  · refine sim_seg [(.iload_n 1, 0, 0, 0), (.iconst (-1), 0, 0, (-1))] [] (q := 60) (L' := [some (.int b0), some (.int b1)]) (st' := [.int (J (-1)), .int b1]) (v1 := v) (by decide +kernel) rfl trivial ?_
    refine sim_lt' (o := 12) (tg := 72) (f := 63) (by decide +kernel) rfl rfl (fun _ => ?_) (fun _ => ?_)
    · refine sim_seg [(.iconst 0, 0, 0, 0)] [] (q := 73) (L' := [some (.int b0), some (.int b1)]) (st' := [.int (J 0)]) (v1 := v) (by decide +kernel) rfl trivial ?_
      exact sim_iret (by decide +kernel) rfl (by decide) rfl
    · refine sim_seg [(.iload_n 1, 0, 0, 0), (.iconst 1, 0, 0, 1)] [] (q := 65) (L' := [some (.int b0), some (.int b1)]) (st' := [.int (J 1), .int b1]) (v1 := v) (by decide +kernel) rfl trivial ?_
      refine sim_gt (o := 7) (tg := 72) (f := 68) (by decide +kernel) rfl rfl (fun _ => ?_) (fun _ => ?_)
      · refine sim_seg [(.iconst 0, 0, 0, 0)] [] (q := 73) (L' := [some (.int b0), some (.int b1)]) (st' := [.int (J 0)]) (v1 := v) (by decide +kernel) rfl trivial ?_
        exact sim_iret (by decide +kernel) rfl (by decide) rfl
      · refine sim_seg [(.iconst 1, 0, 0, 1), (.goto 4, 0, 0, 0)] [] (q := 73) (L' := [some (.int b0), some (.int b1)]) (st' := [.int (J 1)]) (v1 := v) (by decide +kernel) rfl trivial ?_
        exact sim_iret (by decide +kernel) rfl (by decide) rfl
  refine sim_case (df := 109) (lw := 1) (hg := 6) (offs := #[39, 57, 109, 73, 91, 39]) (len := 39) (z := 3) (o := 109) (tg := 110) (by decide +kernel) rfl rfl (by decide) (fun _ => ?_) (fun h3 => ?_)
  · refine sim_seg [(.iconst 0, 0, 0, 0)] [] (q := 111) (L' := [some (.int b0), some (.int b1)]) (st' := [.int (J 0)]) (v1 := v) (by decide +kernel) rfl trivial ?_
    exact sim_iret (by decide +kernel) rfl (by decide) rfl
  refine sim_case (df := 109) (lw := 1) (hg := 6) (offs := #[39, 57, 109, 73, 91, 39]) (len := 39) (z := 4) (o := 73) (tg := 74) (by decide +kernel) rfl rfl (by decide) (fun _ => ?_) (fun h4 => ?_)
  · refine sim_seg [(.iload_n 1, 0, 0, 0), (.iconst 1, 0, 0, 1)] [] (q := 76) (L' := [some (.int b0), some (.int b1)]) (st' := [.int (J 1), .int b1]) (v1 := v) (by decide +kernel) rfl trivial ?_
    refine sim_lt' (o := 14) (tg := 90) (f := 79) (by decide +kernel) rfl rfl (fun _ => ?_) (fun _ => ?_)
    · refine sim_seg [(.iconst 0, 0, 0, 0)] [] (q := 91) (L' := [some (.int b0), some (.int b1)]) (st' := [.int (J 0)]) (v1 := v) (by decide +kernel) rfl trivial ?_
      exact sim_iret (by decide +kernel) rfl (by decide) rfl
    · refine sim_seg [(.iload_n 1, 0, 0, 0), (.sipush 9999, 0, 0, 9999)] [] (q := 83) (L' := [some (.int b0), some (.int b1)]) (st' := [.int (J 9999), .int b1]) (v1 := v) (by decide +kernel) rfl trivial ?_
      refine sim_gt (o := 7) (tg := 90) (f := 86) (by decide +kernel) rfl rfl (fun _ => ?_) (fun _ => ?_)
      · refine sim_seg [(.iconst 0, 0, 0, 0)] [] (q := 91) (L' := [some (.int b0), some (.int b1)]) (st' := [.int (J 0)]) (v1 := v) (by decide +kernel) rfl trivial ?_
        exact sim_iret (by decide +kernel) rfl (by decide) rfl
      · refine sim_seg [(.iconst 1, 0, 0, 1), (.goto 4, 0, 0, 0)] [] (q := 91) (L' := [some (.int b0), some (.int b1)]) (st' := [.int (J 1)]) (v1 := v) (by decide +kernel) rfl trivial ?_
        exact sim_iret (by decide +kernel) rfl (by decide) rfl
  refine sim_case (df := 109) (lw := 1) (hg := 6) (offs := #[39, 57, 109, 73, 91, 39]) (len := 39) (z := 5) (o := 91) (tg := 92) (by decide +kernel) rfl rfl (by decide) (fun _ => ?_) (fun h5 => ?_)
  · refine sim_seg [(.iload_n 1, 0, 0, 0), (.iconst 1, 0, 0, 1)] [] (q := 94) (L' := [some (.int b0), some (.int b1)]) (st' := [.int (J 1), .int b1]) (v1 := v) (by decide +kernel) rfl trivial ?_
    refine sim_lt' (o := 14) (tg := 108) (f := 97) (by decide +kernel) rfl rfl (fun _ => ?_) (fun _ => ?_)
    · refine sim_seg [(.iconst 0, 0, 0, 0)] [] (q := 109) (L' := [some (.int b0), some (.int b1)]) (st' := [.int (J 0)]) (v1 := v) (by decide +kernel) rfl trivial ?_
      exact sim_iret (by decide +kernel) rfl (by decide) rfl
    · refine sim_seg [(.iload_n 1, 0, 0, 0), (.sipush 999, 0, 0, 999)] [] (q := 101) (L' := [some (.int b0), some (.int b1)]) (st' := [.int (J 999), .int b1]) (v1 := v) (by decide +kernel) rfl trivial ?_
      refine sim_gt (o := 7) (tg := 108) (f := 104) (by decide +kernel) rfl rfl (fun _ => ?_) (fun _ => ?_)
      · refine sim_seg [(.iconst 0, 0, 0, 0)] [] (q := 109) (L' := [some (.int b0), some (.int b1)]) (st' := [.int (J 0)]) (v1 := v) (by decide +kernel) rfl trivial ?_
        exact sim_iret (by decide +kernel) rfl (by decide) rfl
      · refine sim_seg [(.iconst 1, 0, 0, 1), (.goto 4, 0, 0, 0)] [] (q := 109) (L' := [some (.int b0), some (.int b1)]) (st' := [.int (J 1)]) (v1 := v) (by decide +kernel) rfl trivial ?_
        exact sim_iret (by decide +kernel) rfl (by decide) rfl
  refine sim_case (df := 109) (lw := 1) (hg := 6) (offs := #[39, 57, 109, 73, 91, 39]) (len := 39) (z := 6) (o := 39) (tg := 40) (by decide +kernel) rfl rfl (by decide) (fun _ => ?_) (fun h6 => ?_)
  · refine sim_seg [(.iload_n 1, 0, 0, 0), (.bipush (-99), 0, 0, (-99))] [] (q := 43) (L' := [some (.int b0), some (.int b1)]) (st' := [.int (J (-99)), .int b1]) (v1 := v) (by decide +kernel) rfl trivial ?_
    refine sim_lt' (o := 13) (tg := 56) (f := 46) (by decide +kernel) rfl rfl (fun _ => ?_) (fun _ => ?_)
    · refine sim_seg [(.iconst 0, 0, 0, 0)] [] (q := 57) (L' := [some (.int b0), some (.int b1)]) (st' := [.int (J 0)]) (v1 := v) (by decide +kernel) rfl trivial ?_
      exact sim_iret (by decide +kernel) rfl (by decide) rfl
    · refine sim_seg [(.iload_n 1, 0, 0, 0), (.bipush 99, 0, 0, 99)] [] (q := 49) (L' := [some (.int b0), some (.int b1)]) (st' := [.int (J 99), .int b1]) (v1 := v) (by decide +kernel) rfl trivial ?_
      refine sim_gt (o := 7) (tg := 56) (f := 52) (by decide +kernel) rfl rfl (fun _ => ?_) (fun _ => ?_)
      · refine sim_seg [(.iconst 0, 0, 0, 0)] [] (q := 57) (L' := [some (.int b0), some (.int b1)]) (st' := [.int (J 0)]) (v1 := v) (by decide +kernel) rfl trivial ?_
        exact sim_iret (by decide +kernel) rfl (by decide) rfl
      · refine sim_seg [(.iconst 1, 0, 0, 1), (.goto 4, 0, 0, 0)] [] (q := 57) (L' := [some (.int b0), some (.int b1)]) (st' := [.int (J 1)]) (v1 := v) (by decide +kernel) rfl trivial ?_
        exact sim_iret (by decide +kernel) rfl (by decide) rfl
  refine sim_tdef (df := 109) (lw := 1) (hg := 6) (offs := #[39, 57, 109, 73, 91, 39]) (len := 39) (tg := 110) (by decide +kernel) rfl (by have eh1 := ne_J h1 (by decide) (by decide); have eh2 := ne_J h2 (by decide) (by decide); have eh3 := ne_J h3 (by decide) (by decide); have eh4 := ne_J h4 (by decide) (by decide); have eh5 := ne_J h5 (by decide) (by decide); have eh6 := ne_J h6 (by decide) (by decide); omega) ?_
  refine sim_seg [(.iconst 0, 0, 0, 0)] [] (q := 111) (L' := [some (.int b0), some (.int b1)]) (st' := [.int (J 0)]) (v1 := v) (by decide +kernel) rfl trivial ?_
  exact sim_iret (by decide +kernel) rfl (by decide) rfl
