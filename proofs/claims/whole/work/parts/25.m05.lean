/-! Methods: gc_tickShare, gc_spread, st_countAt, gc_sharpest, gc_keepForUndo, gc_acceptChange, gc_refuse, gc_waitOutput, gc_accept, gc_gate, gc_period, gc_choice, gc_choose, gc_setting, as_newLength, ab_newCapacity, ar_copyOf, ab_ensureCapacityInternal, ab_isLatin1, l1_canEncode, ab_append, sb_append, ji_getChars. -/
def B_gc_tickShare : bd := (⟨"GateCounter", "tickShare", "()F"⟩, prog_1_method_43_code, 1, (some .float), [], 5, 0)
theorem m_gc_tickShare : mV B_gc_tickShare 5 0 := ⟨⟨⟨by decide +kernel, Or.inl rfl⟩, rfl, (List.mem_of_getElem? (i := 838) (by decide +kernel)), by decide +kernel, (List.mem_of_getElem? (i := 95) (by decide +kernel)), ⟨by decide, by decide⟩, by decide⟩, rfl, (by unfold nar; decide +kernel), (List.mem_of_getElem? (i := 836) (by decide +kernel)), rfl, (List.mem_of_getElem? (i := 837) (by decide +kernel))⟩
noncomputable def F_gc_tickShare (a0 : Nat) (S : shp) (v : vl) : Option UInt32 :=
  grd (kin S a0 = some (0, 5)) <| (gr S a0 5).bind fun r2 => grd (kin S r2 = some (0, 4)) <| (gr S r2 6).bind fun r5 => grd (kin S r5 = some (0, 0)) <| (if (J 0) < (gi v r5 5) then grd (vf_n32 (FP.fdiv (FP.i2f (gi v r5 6)) (FP.i2f (gi v r5 5)))) <| some ((FP.fdiv (FP.i2f (gi v r5 6)) (FP.i2f (gi v r5 5)))) else some (FP.fconst0))
theorem ok_gc_tickShare (a0 : Nat) (S : shp) (v : vl) : SimK B_gc_tickShare 0 (entB (bN B_gc_tickShare) [.ref a0]) [] S v (F_gc_tickShare a0 S v) (ρrf S v) := by
  show SimK B_gc_tickShare 0 [some (.ref a0)] [] S v (F_gc_tickShare a0 S v) _
  unfold F_gc_tickShare
  refine sim_grd fun h1 => ?_
  refine sim_bind fun r2 h3 => ?_
  refine sim_grd fun h4 => ?_
  refine sim_bind fun r5 h6 => ?_
  refine sim_grd fun h7 => ?_
  refine sim_seg [(.aload_n 0, 0, 0, 0), (.getfield 26, 5, 5, 0), (.getfield 87, 4, 6, 0), (.getfield 91, 0, 5, 0)] [r2, r5] (q := 10) (L' := [some (.ref a0)]) (st' := [.int (gi v r5 5)]) (v1 := v) (by decide +kernel) rfl ⟨⟨h1, h3⟩, ⟨h4, h6⟩, h7, trivial⟩ ?_
  refine sim_le0 (o := 29) (tg := 39) (f := 13) (by decide +kernel) rfl rfl (fun _ => ?_) (fun _ => ?_)
  · refine sim_grd fun h8 => ?_
    refine sim_seg [(.aload_n 0, 0, 0, 0), (.getfield 26, 5, 5, 0), (.getfield 87, 4, 6, 0), (.getfield 213, 0, 6, 0), (.i2f, 0, 0, 0), (.aload_n 0, 0, 0, 0), (.getfield 26, 5, 5, 0), (.getfield 87, 4, 6, 0), (.getfield 91, 0, 5, 0), (.i2f, 0, 0, 0), (.fdiv, 0, 0, 0), (.goto 4, 0, 0, 0)] [r2, r5, r2, r5] (q := 40) (L' := [some (.ref a0)]) (st' := [.float (FP.fdiv (FP.i2f (gi v r5 6)) (FP.i2f (gi v r5 5)))]) (v1 := v) (by decide +kernel) rfl ⟨⟨h1, h3⟩, ⟨h4, h6⟩, h7, ⟨h1, h3⟩, ⟨h4, h6⟩, h7, h8, trivial⟩ ?_
    exact sim_fret (by decide +kernel) rfl rfl
  · refine sim_seg [(.fconst 0, 0, 0, 0)] [] (q := 40) (L' := [some (.ref a0)]) (st' := [.float FP.fconst0]) (v1 := v) (by decide +kernel) rfl trivial ?_
    exact sim_fret (by decide +kernel) rfl rfl
def B_gc_spread : bd := (⟨"GateCounter", "spread", "()I"⟩, prog_1_method_44_code, 4, (some .int), [], 5, 2)
theorem m_gc_spread : mV B_gc_spread 5 0 := ⟨⟨⟨by decide +kernel, Or.inl rfl⟩, rfl, (List.mem_of_getElem? (i := 842) (by decide +kernel)), by decide +kernel, (List.mem_of_getElem? (i := 95) (by decide +kernel)), ⟨by decide, by decide⟩, by decide⟩, rfl, (by unfold nar; decide +kernel), (List.mem_of_getElem? (i := 840) (by decide +kernel)), rfl, (List.mem_of_getElem? (i := 841) (by decide +kernel))⟩
noncomputable def Y_gc_spread_13 (N : Nat)  (i13 : Nat → Int32 → Int32 → Int32 → Option Int32) (S : shp) (v : vl)  (p0 : Nat) (p1 : Int32) (p2 : Int32) (p3 : Int32) : Option Int32 :=
  grd (kin S p0 = some (0, 5)) <| (gr S p0 5).bind fun r7 => grd (kin S r7 = some (0, 4)) <| (if p3 < (gi v r7 5) then (F_st_valueAt r7 p3 S v).bind fun x10 => (F_ma_min p1 x10 S v).bind fun x11 => (F_st_valueAt r7 p3 S v).bind fun x12 => (F_ma_max p2 x12 S v).bind fun x13 => i13 p0 x11 x13 (p3 + (J 1)) else some ((p2 - p1)))
noncomputable def K_gc_spread_13 (N : Nat)  (n : Nat) (S : shp) (v : vl) : Nat → Int32 → Int32 → Int32 → Option Int32 :=
  Nat.rec (motive := fun _ => Nat → Int32 → Int32 → Int32 → Option Int32) (fun _ _ _ _ => none) (fun _ i => Y_gc_spread_13 N  i S v) n
theorem sY_gc_spread_13 (N : Nat)  (i13 : Nat → Int32 → Int32 → Int32 → Option Int32) (S : shp) (v : vl)  (j13 : ∀ (p0 : Nat) (p1 : Int32) (p2 : Int32) (p3 : Int32), SimK B_gc_spread 13 [some (.ref p0), some (.int p1), some (.int p2), some (.int p3)] [] S v (i13 p0 p1 p2 p3) (ρri S v))  (p0 : Nat) (p1 : Int32) (p2 : Int32) (p3 : Int32) : SimK B_gc_spread 13 [some (.ref p0), some (.int p1), some (.int p2), some (.int p3)] [] S v (Y_gc_spread_13 N  i13 S v  p0 p1 p2 p3) (ρri S v) := by
  unfold Y_gc_spread_13
  refine sim_grd fun h6 => ?_
  refine sim_bind fun r7 h8 => ?_
  refine sim_grd fun h9 => ?_
  refine sim_seg [(.iload_n 3, 0, 0, 0), (.aload_n 0, 0, 0, 0), (.getfield 26, 5, 5, 0), (.getfield 106, 4, 5, 0)] [r7] (q := 21) (L' := [some (.ref p0), some (.int p1), some (.int p2), some (.int p3)]) (st' := [.int (gi v r7 5), .int p3]) (v1 := v) (by decide +kernel) rfl ⟨⟨h6, h8⟩, h9, trivial⟩ ?_
  refine sim_ge (o := 35) (tg := 56) (f := 24) (by decide +kernel) rfl rfl (fun _ => ?_) (fun _ => ?_)
  · refine sim_seg [(.iload_n 1, 0, 0, 0), (.aload_n 0, 0, 0, 0), (.getfield 26, 5, 5, 0), (.iload_n 3, 0, 0, 0)] [r7] (q := 30) (L' := [some (.ref p0), some (.int p1), some (.int p2), some (.int p3)]) (st' := [.int p3, .ref r7, .int p1]) (v1 := v) (by decide +kernel) rfl ⟨⟨h6, h8⟩, trivial⟩ ?_
    refine sc_ri (pc3 := 33) (cf_V (idx := 277) (ci := 4) [.int p3] m_st_valueAt (by decide) ⟨by decide, by decide⟩ (List.mem_of_getElem? (i := 822) (by decide +kernel)) rfl (Nat.le_of_ble_eq_true rfl) h9 (by decide +kernel) (Nat.le_of_ble_eq_true rfl) rfl) (ok_st_valueAt r7 p3 S v) rfl (fun x10 => ?_)
    refine sc_ri (pc3 := 36) (cf_S (idx := 220) [.int p1, .int x10] m_ma_min ⟨by decide, by decide⟩ (List.mem_of_getElem? (i := 692) (by decide +kernel)) rfl (Nat.le_of_ble_eq_true rfl) (by decide +kernel) (Nat.le_of_ble_eq_true rfl) rfl) (ok_ma_min p1 x10 S v) rfl (fun x11 => ?_)
    refine sim_seg [(.istore_n 1, 0, 0, 0)] [] (q := 37) (L' := [some (.ref p0), some (.int x11), some (.int p2), some (.int p3)]) (st' := []) (v1 := v) (by decide +kernel) rfl trivial ?_
    refine sim_seg [(.iload_n 2, 0, 0, 0), (.aload_n 0, 0, 0, 0), (.getfield 26, 5, 5, 0), (.iload_n 3, 0, 0, 0)] [r7] (q := 43) (L' := [some (.ref p0), some (.int x11), some (.int p2), some (.int p3)]) (st' := [.int p3, .ref r7, .int p2]) (v1 := v) (by decide +kernel) rfl ⟨⟨h6, h8⟩, trivial⟩ ?_
    refine sc_ri (pc3 := 46) (cf_V (idx := 277) (ci := 4) [.int p3] m_st_valueAt (by decide) ⟨by decide, by decide⟩ (List.mem_of_getElem? (i := 822) (by decide +kernel)) rfl (Nat.le_of_ble_eq_true rfl) h9 (by decide +kernel) (Nat.le_of_ble_eq_true rfl) rfl) (ok_st_valueAt r7 p3 S v) rfl (fun x12 => ?_)
    refine sc_ri (pc3 := 49) (cf_S (idx := 226) [.int p2, .int x12] m_ma_max ⟨by decide, by decide⟩ (List.mem_of_getElem? (i := 695) (by decide +kernel)) rfl (Nat.le_of_ble_eq_true rfl) (by decide +kernel) (Nat.le_of_ble_eq_true rfl) rfl) (ok_ma_max p2 x12 S v) rfl (fun x13 => ?_)
    refine sim_seg [(.istore_n 2, 0, 0, 0)] [] (q := 50) (L' := [some (.ref p0), some (.int x11), some (.int x13), some (.int p3)]) (st' := []) (v1 := v) (by decide +kernel) rfl trivial ?_
    refine sim_seg [(.iinc 3 1, 0, 0, 1)] [] (q := 53) (L' := [some (.ref p0), some (.int x11), some (.int x13), some (.int (p3 + (J 1)))]) (st' := []) (v1 := v) (by decide +kernel) rfl trivial ?_
    refine sim_seg [(.goto (-40), 0, 0, 0)] [] (q := 13) (L' := [some (.ref p0), some (.int x11), some (.int x13), some (.int (p3 + (J 1)))]) (st' := []) (v1 := v) (by decide +kernel) rfl trivial ?_
    exact j13 p0 x11 x13 (p3 + (J 1))
  · refine sim_seg [(.iload_n 2, 0, 0, 0), (.iload_n 1, 0, 0, 0), (.isub, 0, 0, 0)] [] (q := 59) (L' := [some (.ref p0), some (.int p1), some (.int p2), some (.int p3)]) (st' := [.int (p2 - p1)]) (v1 := v) (by decide +kernel) rfl trivial ?_
    exact sim_iret (by decide +kernel) rfl rfl rfl
theorem sR_gc_spread_13 (N : Nat)  (S : shp) (v : vl)  (n : Nat) : ∀  (p0 : Nat) (p1 : Int32) (p2 : Int32) (p3 : Int32), SimK B_gc_spread 13 [some (.ref p0), some (.int p1), some (.int p2), some (.int p3)] [] S v (K_gc_spread_13 N  n S v  p0 p1 p2 p3) (ρri S v) := by
  induction n with
  | zero => intro p0 p1 p2 p3; exact sim_none
  | succ k ih => intro p0 p1 p2 p3; exact sY_gc_spread_13 N   _ S v  ih p0 p1 p2 p3
theorem sK_gc_spread_13 (N : Nat)  (n : Nat) (S : shp) (v : vl) (p0 : Nat) (p1 : Int32) (p2 : Int32) (p3 : Int32) : SimK B_gc_spread 13 [some (.ref p0), some (.int p1), some (.int p2), some (.int p3)] [] S v (K_gc_spread_13 N  n S v  p0 p1 p2 p3) (ρri S v) := sR_gc_spread_13 N   S v  n  p0 p1 p2 p3
noncomputable def F_gc_spread (N : Nat) (a0 : Nat) (S : shp) (v : vl) : Option Int32 :=
  grd (kin S a0 = some (0, 5)) <| (gr S a0 5).bind fun r2 => grd (kin S r2 = some (0, 4)) <| (F_st_valueAt r2 (J 0) S v).bind fun x5 => K_gc_spread_13 N  N S v a0 x5 x5 (J 1)
theorem ok_gc_spread (N : Nat) (a0 : Nat) (S : shp) (v : vl) : SimK B_gc_spread 0 (entB (bN B_gc_spread) [.ref a0]) [] S v (F_gc_spread N a0 S v) (ρri S v) := by
  show SimK B_gc_spread 0 [some (.ref a0), none, none, none] [] S v (F_gc_spread N a0 S v) _
  unfold F_gc_spread
  refine sim_grd fun h1 => ?_
  refine sim_bind fun r2 h3 => ?_
  refine sim_seg [(.aload_n 0, 0, 0, 0), (.getfield 26, 5, 5, 0), (.iconst 0, 0, 0, 0)] [r2] (q := 5) (L' := [some (.ref a0), none, none, none]) (st' := [.int (J 0), .ref r2]) (v1 := v) (by decide +kernel) rfl ⟨⟨h1, h3⟩, trivial⟩ ?_
  refine sim_grd fun h4 => ?_
  refine sc_ri (pc3 := 8) (cf_V (idx := 277) (ci := 4) [.int (J 0)] m_st_valueAt (by decide) ⟨by decide, by decide⟩ (List.mem_of_getElem? (i := 822) (by decide +kernel)) rfl (Nat.le_of_ble_eq_true rfl) h4 (by decide +kernel) (Nat.le_of_ble_eq_true rfl) rfl) (ok_st_valueAt r2 (J 0) S v) rfl (fun x5 => ?_)
  refine sim_seg [(.istore_n 1, 0, 0, 0)] [] (q := 9) (L' := [some (.ref a0), some (.int x5), none, none]) (st' := []) (v1 := v) (by decide +kernel) rfl trivial ?_
  refine sim_seg [(.iload_n 1, 0, 0, 0), (.istore_n 2, 0, 0, 0)] [] (q := 11) (L' := [some (.ref a0), some (.int x5), some (.int x5), none]) (st' := []) (v1 := v) (by decide +kernel) rfl trivial ?_
  refine sim_seg [(.iconst 1, 0, 0, 1), (.istore_n 3, 0, 0, 0)] [] (q := 13) (L' := [some (.ref a0), some (.int x5), some (.int x5), some (.int (J 1))]) (st' := []) (v1 := v) (by decide +kernel) rfl trivial ?_
  exact sK_gc_spread_13 N N S v a0 x5 x5 (J 1)
def B_st_countAt : bd := (⟨"GateCounter$State", "countAt", "(I)I"⟩, prog_6_method_15_code, 3, (some .int), [], 4, 1)
theorem m_st_countAt : mV B_st_countAt 4 1 := ⟨⟨⟨by decide +kernel, Or.inl rfl⟩, rfl, (List.mem_of_getElem? (i := 850) (by decide +kernel)), by decide +kernel, (List.mem_of_getElem? (i := 97) (by decide +kernel)), ⟨by decide, by decide⟩, by decide⟩, rfl, (by unfold nar; decide +kernel), (List.mem_of_getElem? (i := 848) (by decide +kernel)), rfl, (List.mem_of_getElem? (i := 849) (by decide +kernel))⟩
noncomputable def F_st_countAt (a0 : Nat) (b1 : Int32) (S : shp) (v : vl) : Option Int32 :=
  grd (kin S a0 = some (0, 4)) <| (F_st_at a0 b1 S v).bind fun q2 => oc2 q2 (some ((J 0))) fun r3 => grd (kin S r3 = some (0, 1)) <| some ((gi v r3 3))
theorem ok_st_countAt (a0 : Nat) (b1 : Int32) (S : shp) (v : vl) : SimK B_st_countAt 0 (entB (bN B_st_countAt) [.ref a0, .int b1]) [] S v (F_st_countAt a0 b1 S v) (ρri S v) := by
  show SimK B_st_countAt 0 [some (.ref a0), some (.int b1), none] [] S v (F_st_countAt a0 b1 S v) _
  unfold F_st_countAt
  refine sim_seg [(.aload_n 0, 0, 0, 0), (.iload_n 1, 0, 0, 0)] [] (q := 2) (L' := [some (.ref a0), some (.int b1), none]) (st' := [.int b1, .ref a0]) (v1 := v) (by decide +kernel) rfl trivial ?_
  refine sim_grd fun h1 => ?_
  refine sc_rq (pc3 := 5) (cf_V (idx := 136) (ci := 4) [.int b1] m_st_at (by decide) ⟨by decide, by decide⟩ (List.mem_of_getElem? (i := 783) (by decide +kernel)) rfl (Nat.le_of_ble_eq_true rfl) h1 (by decide +kernel) (Nat.le_of_ble_eq_true rfl) rfl) (ok_st_at a0 b1 S v) rfl (fun q2 => ?_)
  refine sim_oc2 (fun _ => ?_) (fun r3 _ => ?_)
  · refine sim_seg [(.astore_n 2, 0, 0, 0)] [] (q := 6) (L' := [some (.ref a0), some (.int b1), some (.null)]) (st' := []) (v1 := v) (by decide +kernel) rfl trivial ?_
    refine sim_seg [(.aload_n 2, 0, 0, 0)] [] (q := 7) (L' := [some (.ref a0), some (.int b1), some (.null)]) (st' := [.null]) (v1 := v) (by decide +kernel) rfl trivial ?_
    refine sim_ifnonnullN (o := 7) (f := 10) (by decide +kernel) rfl ?_
    refine sim_seg [(.iconst 0, 0, 0, 0), (.goto 7, 0, 0, 0)] [] (q := 18) (L' := [some (.ref a0), some (.int b1), some (.null)]) (st' := [.int (J 0)]) (v1 := v) (by decide +kernel) rfl trivial ?_
    exact sim_iret (by decide +kernel) rfl rfl rfl
  · refine sim_seg [(.astore_n 2, 0, 0, 0)] [] (q := 6) (L' := [some (.ref a0), some (.int b1), some (.ref r3)]) (st' := []) (v1 := v) (by decide +kernel) rfl trivial ?_
    refine sim_seg [(.aload_n 2, 0, 0, 0)] [] (q := 7) (L' := [some (.ref a0), some (.int b1), some (.ref r3)]) (st' := [.ref r3]) (v1 := v) (by decide +kernel) rfl trivial ?_
    refine sim_ifnonnullS (o := 7) (tg := 14) (by decide +kernel) rfl ?_
    refine sim_grd fun h4 => ?_
    refine sim_seg [(.aload_n 2, 0, 0, 0), (.getfield 146, 1, 3, 0)] [] (q := 18) (L' := [some (.ref a0), some (.int b1), some (.ref r3)]) (st' := [.int (gi v r3 3)]) (v1 := v) (by decide +kernel) rfl ⟨h4, trivial⟩ ?_
    exact sim_iret (by decide +kernel) rfl rfl rfl
def B_gc_sharpest : bd := (⟨"GateCounter", "sharpest", "()I"⟩, prog_1_method_45_code, 5, (some .int), [], 5, 2)
theorem m_gc_sharpest : mV B_gc_sharpest 5 0 := ⟨⟨⟨by decide +kernel, Or.inl rfl⟩, rfl, (List.mem_of_getElem? (i := 846) (by decide +kernel)), by decide +kernel, (List.mem_of_getElem? (i := 95) (by decide +kernel)), ⟨by decide, by decide⟩, by decide⟩, rfl, (by unfold nar; decide +kernel), (List.mem_of_getElem? (i := 844) (by decide +kernel)), rfl, (List.mem_of_getElem? (i := 845) (by decide +kernel))⟩
noncomputable def Y_gc_sharpest_6 (N : Nat)  (i6 : Nat → Int32 → Int32 → Int32 → Option Int32) (S : shp) (v : vl)  (p0 : Nat) (p1 : Int32) (p2 : Int32) (p3 : Int32) : Option Int32 :=
  grd (kin S p0 = some (0, 5)) <| (gr S p0 5).bind fun r2 => grd (kin S r2 = some (0, 4)) <| (if p3 < (gi v r2 5) then (F_st_countAt r2 p3 S v).bind fun x5 => (F_gc_digitsOf N x5 S v).bind fun x6 => (if x6 < p2 then i6 p0 p1 p2 (p3 + (J 1)) else i6 p0 p3 x6 (p3 + (J 1))) else some (p1))
noncomputable def K_gc_sharpest_6 (N : Nat)  (n : Nat) (S : shp) (v : vl) : Nat → Int32 → Int32 → Int32 → Option Int32 :=
  Nat.rec (motive := fun _ => Nat → Int32 → Int32 → Int32 → Option Int32) (fun _ _ _ _ => none) (fun _ i => Y_gc_sharpest_6 N  i S v) n
theorem sY_gc_sharpest_6 (N : Nat)  (i6 : Nat → Int32 → Int32 → Int32 → Option Int32) (S : shp) (v : vl)  (j6 : ∀ (p0 : Nat) (p1 : Int32) (p2 : Int32) (p3 : Int32), SimK B_gc_sharpest 6 [some (.ref p0), some (.int p1), some (.int p2), some (.int p3), none] [] S v (i6 p0 p1 p2 p3) (ρri S v))  (p0 : Nat) (p1 : Int32) (p2 : Int32) (p3 : Int32) : SimK B_gc_sharpest 6 [some (.ref p0), some (.int p1), some (.int p2), some (.int p3), none] [] S v (Y_gc_sharpest_6 N  i6 S v  p0 p1 p2 p3) (ρri S v) := by
  unfold Y_gc_sharpest_6
  refine sim_grd fun h1 => ?_
  refine sim_bind fun r2 h3 => ?_
  refine sim_grd fun h4 => ?_
  refine sim_seg [(.iload_n 3, 0, 0, 0), (.aload_n 0, 0, 0, 0), (.getfield 26, 5, 5, 0), (.getfield 106, 4, 5, 0)] [r2] (q := 14) (L' := [some (.ref p0), some (.int p1), some (.int p2), some (.int p3), none]) (st' := [.int (gi v r2 5), .int p3]) (v1 := v) (by decide +kernel) rfl ⟨⟨h1, h3⟩, h4, trivial⟩ ?_
  refine sim_ge (o := 33) (tg := 47) (f := 17) (by decide +kernel) rfl rfl (fun _ => ?_) (fun _ => ?_)
  · refine sim_seg [(.aload_n 0, 0, 0, 0), (.getfield 26, 5, 5, 0), (.iload_n 3, 0, 0, 0)] [r2] (q := 22) (L' := [some (.ref p0), some (.int p1), some (.int p2), some (.int p3), none]) (st' := [.int p3, .ref r2]) (v1 := v) (by decide +kernel) rfl ⟨⟨h1, h3⟩, trivial⟩ ?_
    refine sc_ri (pc3 := 25) (cf_V (idx := 283) (ci := 4) [.int p3] m_st_countAt (by decide) ⟨by decide, by decide⟩ (List.mem_of_getElem? (i := 847) (by decide +kernel)) rfl (Nat.le_of_ble_eq_true rfl) h4 (by decide +kernel) (Nat.le_of_ble_eq_true rfl) rfl) (ok_st_countAt r2 p3 S v) rfl (fun x5 => ?_)
    refine sc_ri (pc3 := 28) (cf_S (idx := 255) [.int x5] m_gc_digitsOf ⟨by decide, by decide⟩ (List.mem_of_getElem? (i := 851) (by decide +kernel)) rfl (Nat.le_of_ble_eq_true rfl) (by decide +kernel) (Nat.le_of_ble_eq_true rfl) rfl) (ok_gc_digitsOf N x5 S v) rfl (fun x6 => ?_)
    refine sim_seg [(.istore 4, 0, 0, 0)] [] (q := 30) (L' := [some (.ref p0), some (.int p1), some (.int p2), some (.int p3), some (.int x6)]) (st' := []) (v1 := v) (by decide +kernel) rfl trivial ?_
    refine sim_seg [(.iload 4, 0, 0, 0), (.iload_n 2, 0, 0, 0)] [] (q := 33) (L' := [some (.ref p0), some (.int p1), some (.int p2), some (.int p3), some (.int x6)]) (st' := [.int p2, .int x6]) (v1 := v) (by decide +kernel) rfl trivial ?_
    refine sim_lt' (o := 8) (tg := 41) (f := 36) (by decide +kernel) rfl rfl (fun _ => ?_) (fun _ => ?_)
    · refine sim_seg [(.iinc 3 1, 0, 0, 1)] [] (q := 44) (L' := [some (.ref p0), some (.int p1), some (.int p2), some (.int (p3 + (J 1))), some (.int x6)]) (st' := []) (v1 := v) (by decide +kernel) rfl trivial ?_
      refine sim_seg [(.goto (-38), 0, 0, 0)] [] (q := 6) (L' := [some (.ref p0), some (.int p1), some (.int p2), some (.int (p3 + (J 1))), some (.int x6)]) (st' := []) (v1 := v) (by decide +kernel) rfl trivial ?_
      exact sim_wk (L0 := [some (.ref p0), some (.int p1), some (.int p2), some (.int (p3 + (J 1))), none]) ⟨rfl, rfl, rfl, rfl, trivial⟩ (j6 p0 p1 p2 (p3 + (J 1)))
    · refine sim_seg [(.iload 4, 0, 0, 0), (.istore_n 2, 0, 0, 0)] [] (q := 39) (L' := [some (.ref p0), some (.int p1), some (.int x6), some (.int p3), some (.int x6)]) (st' := []) (v1 := v) (by decide +kernel) rfl trivial ?_
      refine sim_seg [(.iload_n 3, 0, 0, 0), (.istore_n 1, 0, 0, 0)] [] (q := 41) (L' := [some (.ref p0), some (.int p3), some (.int x6), some (.int p3), some (.int x6)]) (st' := []) (v1 := v) (by decide +kernel) rfl trivial ?_
      refine sim_seg [(.iinc 3 1, 0, 0, 1)] [] (q := 44) (L' := [some (.ref p0), some (.int p3), some (.int x6), some (.int (p3 + (J 1))), some (.int x6)]) (st' := []) (v1 := v) (by decide +kernel) rfl trivial ?_
      refine sim_seg [(.goto (-38), 0, 0, 0)] [] (q := 6) (L' := [some (.ref p0), some (.int p3), some (.int x6), some (.int (p3 + (J 1))), some (.int x6)]) (st' := []) (v1 := v) (by decide +kernel) rfl trivial ?_
      exact sim_wk (L0 := [some (.ref p0), some (.int p3), some (.int x6), some (.int (p3 + (J 1))), none]) ⟨rfl, rfl, rfl, rfl, trivial⟩ (j6 p0 p3 x6 (p3 + (J 1)))
  · refine sim_seg [(.iload_n 1, 0, 0, 0)] [] (q := 48) (L' := [some (.ref p0), some (.int p1), some (.int p2), some (.int p3), none]) (st' := [.int p1]) (v1 := v) (by decide +kernel) rfl trivial ?_
    exact sim_iret (by decide +kernel) rfl rfl rfl
theorem sR_gc_sharpest_6 (N : Nat)  (S : shp) (v : vl)  (n : Nat) : ∀  (p0 : Nat) (p1 : Int32) (p2 : Int32) (p3 : Int32), SimK B_gc_sharpest 6 [some (.ref p0), some (.int p1), some (.int p2), some (.int p3), none] [] S v (K_gc_sharpest_6 N  n S v  p0 p1 p2 p3) (ρri S v) := by
  induction n with
  | zero => intro p0 p1 p2 p3; exact sim_none
  | succ k ih => intro p0 p1 p2 p3; exact sY_gc_sharpest_6 N   _ S v  ih p0 p1 p2 p3
theorem sK_gc_sharpest_6 (N : Nat)  (n : Nat) (S : shp) (v : vl) (p0 : Nat) (p1 : Int32) (p2 : Int32) (p3 : Int32) : SimK B_gc_sharpest 6 [some (.ref p0), some (.int p1), some (.int p2), some (.int p3), none] [] S v (K_gc_sharpest_6 N  n S v  p0 p1 p2 p3) (ρri S v) := sR_gc_sharpest_6 N   S v  n  p0 p1 p2 p3
noncomputable def F_gc_sharpest (N : Nat) (a0 : Nat) (S : shp) (v : vl) : Option Int32 :=
  K_gc_sharpest_6 N  N S v a0 (J (-1)) (J 0) (J 0)
theorem ok_gc_sharpest (N : Nat) (a0 : Nat) (S : shp) (v : vl) : SimK B_gc_sharpest 0 (entB (bN B_gc_sharpest) [.ref a0]) [] S v (F_gc_sharpest N a0 S v) (ρri S v) := by
  show SimK B_gc_sharpest 0 [some (.ref a0), none, none, none, none] [] S v (F_gc_sharpest N a0 S v) _
  unfold F_gc_sharpest
  refine sim_seg [(.iconst (-1), 0, 0, (-1)), (.istore_n 1, 0, 0, 0)] [] (q := 2) (L' := [some (.ref a0), some (.int (J (-1))), none, none, none]) (st' := []) (v1 := v) (by decide +kernel) rfl trivial ?_
  refine sim_seg [(.iconst 0, 0, 0, 0), (.istore_n 2, 0, 0, 0)] [] (q := 4) (L' := [some (.ref a0), some (.int (J (-1))), some (.int (J 0)), none, none]) (st' := []) (v1 := v) (by decide +kernel) rfl trivial ?_
  refine sim_seg [(.iconst 0, 0, 0, 0), (.istore_n 3, 0, 0, 0)] [] (q := 6) (L' := [some (.ref a0), some (.int (J (-1))), some (.int (J 0)), some (.int (J 0)), none]) (st' := []) (v1 := v) (by decide +kernel) rfl trivial ?_
  exact sK_gc_sharpest_6 N N S v a0 (J (-1)) (J 0) (J 0)
def B_gc_keepForUndo : bd := (⟨"GateCounter", "keepForUndo", "()V"⟩, prog_1_method_71_code, 1, none, [], 5, 4)
theorem m_gc_keepForUndo : mV B_gc_keepForUndo 5 0 := ⟨⟨⟨by decide +kernel, Or.inl rfl⟩, rfl, (List.mem_of_getElem? (i := 868) (by decide +kernel)), by decide +kernel, (List.mem_of_getElem? (i := 95) (by decide +kernel)), ⟨by decide, by decide⟩, by decide⟩, rfl, (by unfold nar; decide +kernel), (List.mem_of_getElem? (i := 867) (by decide +kernel)), rfl, (List.mem_of_getElem? (i := 26) (by decide +kernel))⟩
noncomputable def F_gc_keepForUndo (N : Nat) (a0 : Nat) (S : shp) (v : vl) : Option (shp × vl) :=
  grd (kin S a0 = some (0, 5)) <| (gr S a0 10).bind fun r2 => (F_ma_floorMod (gi v a0 11) (J 8) S v).bind fun x4 => grd (kin S r2 = some (4, 8)) <| grd (vp_in x4 (alen S r2)) <| (gr S r2 (Int32.toNatClampNeg x4)).bind fun r7 => (gr S a0 5).bind fun r9 => grd (kin S r7 = some (0, 4)) <| (F_st_copyFrom N r7 r9 S v).bind fun (S12, w13) => lt (si w13 a0 11 ((gi w13 a0 11) + (J 1))) fun w15 => (F_ma_min (J 8) ((gi w15 a0 12) + (J 1)) S12 w15).bind fun x16 => lt (si w15 a0 12 x16) fun w17 => some ((S12, w17))
theorem ok_gc_keepForUndo (N : Nat) (a0 : Nat) (S : shp) (v : vl) : SimK B_gc_keepForUndo 0 (entB (bN B_gc_keepForUndo) [.ref a0]) [] S v (F_gc_keepForUndo N a0 S v) (ρgv) := by
  show SimK B_gc_keepForUndo 0 [some (.ref a0)] [] S v (F_gc_keepForUndo N a0 S v) _
  unfold F_gc_keepForUndo
  refine sim_grd fun h1 => ?_
  refine sim_bind fun r2 h3 => ?_
  refine sim_seg [(.aload_n 0, 0, 0, 0), (.getfield 39, 5, 10, 0), (.aload_n 0, 0, 0, 0), (.getfield 336, 5, 11, 0), (.bipush 8, 0, 0, 8)] [r2] (q := 10) (L' := [some (.ref a0)]) (st' := [.int (J 8), .int (gi v a0 11), .ref r2]) (v1 := v) (by decide +kernel) rfl ⟨⟨h1, h3⟩, h1, trivial⟩ ?_
  refine sc_ri (pc3 := 13) (cf_S (idx := 339) [.int (gi v a0 11), .int (J 8)] m_ma_floorMod ⟨by decide, by decide⟩ (List.mem_of_getElem? (i := 869) (by decide +kernel)) rfl (Nat.le_of_ble_eq_true rfl) (by decide +kernel) (Nat.le_of_ble_eq_true rfl) rfl) (ok_ma_floorMod (gi v a0 11) (J 8) S v) rfl (fun x4 => ?_)
  refine sim_grd fun h5 => ?_
  refine sim_grd fun h6 => ?_
  refine sim_bind fun r7 h8 => ?_
  refine sim_bind fun r9 h10 => ?_
  refine sim_seg [(.aaload, 0, 0, 0), (.aload_n 0, 0, 0, 0), (.getfield 26, 5, 5, 0)] [r7, r9] (q := 18) (L' := [some (.ref a0)]) (st' := [.ref r9, .ref r7]) (v1 := v) (by decide +kernel) rfl ⟨⟨Or.inl (kin_alen h5), h6, h8⟩, ⟨h1, h10⟩, trivial⟩ ?_
  refine sim_grd fun h11 => ?_
  refine sc_gv (pc3 := 21) (cf_V (idx := 58) (ci := 4) [.ref r9] m_st_copyFrom (by decide) ⟨by decide, by decide⟩ (List.mem_of_getElem? (i := 570) (by decide +kernel)) rfl (Nat.le_of_ble_eq_true rfl) h11 (by decide +kernel) (Nat.le_of_ble_eq_true rfl) rfl) (ok_st_copyFrom N r7 r9 S v) rfl (fun S12 w13 h14 => ?_)
  refine sim_seg [(.aload_n 0, 0, 0, 0), (.dup, 0, 0, 0), (.getfield 336, 5, 11, 0), (.iconst 1, 0, 0, 1), (.iadd, 0, 0, 0), (.putfield 336, 5, 11, 0), (.aload_n 0, 0, 0, 0), (.bipush 8, 0, 0, 8), (.aload_n 0, 0, 0, 0)] [] (q := 35) (L' := [some (.ref a0)]) (st' := [.ref a0, .int (J 8), .ref a0]) (v1 := (si w13 a0 11 ((gi w13 a0 11) + (J 1)))) (by decide +kernel) rfl ⟨(h14.2.2.2.2 _ _ h1), (h14.2.2.2.2 _ _ h1), trivial⟩ ?_
  refine sim_lt (x := (si w13 a0 11 ((gi w13 a0 11) + (J 1)))) ?_
  generalize (si w13 a0 11 ((gi w13 a0 11) + (J 1))) = w15
  refine sim_seg [(.getfield 62, 5, 12, 0), (.iconst 1, 0, 0, 1), (.iadd, 0, 0, 0)] [] (q := 40) (L' := [some (.ref a0)]) (st' := [.int ((gi w15 a0 12) + (J 1)), .int (J 8), .ref a0]) (v1 := w15) (by decide +kernel) rfl ⟨(h14.2.2.2.2 _ _ h1), trivial⟩ ?_
  refine sc_ri (pc3 := 43) (cf_S (idx := 220) [.int (J 8), .int ((gi w15 a0 12) + (J 1))] m_ma_min ⟨by decide, by decide⟩ (List.mem_of_getElem? (i := 692) (by decide +kernel)) rfl (Nat.le_of_ble_eq_true rfl) (by decide +kernel) (Nat.le_of_ble_eq_true rfl) rfl) (ok_ma_min (J 8) ((gi w15 a0 12) + (J 1)) S12 w15) rfl (fun x16 => ?_)
  refine sim_seg [(.putfield 62, 5, 12, 0)] [] (q := 46) (L' := [some (.ref a0)]) (st' := []) (v1 := (si w15 a0 12 x16)) (by decide +kernel) rfl ⟨(h14.2.2.2.2 _ _ h1), trivial⟩ ?_
  refine sim_lt (x := (si w15 a0 12 x16)) ?_
  generalize (si w15 a0 12 x16) = w17
  exact sim_vret (by decide +kernel) rfl rfl
def B_gc_acceptChange : bd := (⟨"GateCounter", "acceptChange", "()V"⟩, prog_1_method_72_code, 1, none, [], 5, 5)
theorem m_gc_acceptChange : mV B_gc_acceptChange 5 0 := ⟨⟨⟨by decide +kernel, Or.inl rfl⟩, rfl, (List.mem_of_getElem? (i := 864) (by decide +kernel)), by decide +kernel, (List.mem_of_getElem? (i := 95) (by decide +kernel)), ⟨by decide, by decide⟩, by decide⟩, rfl, (by unfold nar; decide +kernel), (List.mem_of_getElem? (i := 863) (by decide +kernel)), rfl, (List.mem_of_getElem? (i := 25) (by decide +kernel))⟩
noncomputable def F_gc_acceptChange (N : Nat) (a0 : Nat) (S : shp) (v : vl) : Option (shp × vl) :=
  grd (kin S a0 = some (0, 5)) <| lt (si (si v a0 2 (J 0)) a0 3 (J 0)) fun w2 => (F_gc_keepForUndo N a0 S w2).bind fun (S3, w4) => some ((S3, w4))
theorem ok_gc_acceptChange (N : Nat) (a0 : Nat) (S : shp) (v : vl) : SimK B_gc_acceptChange 0 (entB (bN B_gc_acceptChange) [.ref a0]) [] S v (F_gc_acceptChange N a0 S v) (ρgv) := by
  show SimK B_gc_acceptChange 0 [some (.ref a0)] [] S v (F_gc_acceptChange N a0 S v) _
  unfold F_gc_acceptChange
  refine sim_grd fun h1 => ?_
  refine sim_seg [(.aload_n 0, 0, 0, 0), (.iconst 0, 0, 0, 0), (.putfield 180, 5, 2, 0), (.aload_n 0, 0, 0, 0), (.iconst 0, 0, 0, 0), (.putfield 183, 5, 3, 0), (.aload_n 0, 0, 0, 0)] [] (q := 11) (L' := [some (.ref a0)]) (st' := [.ref a0]) (v1 := (si (si v a0 2 (J 0)) a0 3 (J 0))) (by decide +kernel) rfl ⟨h1, h1, trivial⟩ ?_
  refine sim_lt (x := (si (si v a0 2 (J 0)) a0 3 (J 0))) ?_
  generalize (si (si v a0 2 (J 0)) a0 3 (J 0)) = w2
  refine sc_gv (pc3 := 14) (cf_V (idx := 289) (ci := 5) [] m_gc_keepForUndo (by decide) ⟨by decide, by decide⟩ (List.mem_of_getElem? (i := 865) (by decide +kernel)) rfl (Nat.le_of_ble_eq_true rfl) h1 (by decide +kernel) (Nat.le_of_ble_eq_true rfl) rfl) (ok_gc_keepForUndo N a0 S w2) rfl (fun S3 w4 h5 => ?_)
  exact sim_vret (by decide +kernel) rfl rfl
def B_gc_refuse : bd := (⟨"GateCounter", "refuse", "(II)I"⟩, prog_1_method_74_code, 3, (some .int), [], 5, 0)
theorem m_gc_refuse : mV B_gc_refuse 5 2 := ⟨⟨⟨by decide +kernel, Or.inl rfl⟩, rfl, (List.mem_of_getElem? (i := 860) (by decide +kernel)), by decide +kernel, (List.mem_of_getElem? (i := 95) (by decide +kernel)), ⟨by decide, by decide⟩, by decide⟩, rfl, (by unfold nar; decide +kernel), (List.mem_of_getElem? (i := 859) (by decide +kernel)), rfl, (List.mem_of_getElem? (i := 24) (by decide +kernel))⟩
noncomputable def F_gc_refuse (a0 : Nat) (b1 : Int32) (b2 : Int32) (S : shp) (v : vl) : Option (Int32 × vl) :=
  grd (kin S a0 = some (0, 5)) <| lt (si (si v a0 2 b1) a0 3 b2) fun w2 => some (((J (-1)), w2))
theorem ok_gc_refuse (a0 : Nat) (b1 : Int32) (b2 : Int32) (S : shp) (v : vl) : SimK B_gc_refuse 0 (entB (bN B_gc_refuse) [.ref a0, .int b1, .int b2]) [] S v (F_gc_refuse a0 b1 b2 S v) (ρpi S) := by
  show SimK B_gc_refuse 0 [some (.ref a0), some (.int b1), some (.int b2)] [] S v (F_gc_refuse a0 b1 b2 S v) _
  unfold F_gc_refuse
  refine sim_grd fun h1 => ?_
  refine sim_seg [(.aload_n 0, 0, 0, 0), (.iload_n 1, 0, 0, 0), (.putfield 180, 5, 2, 0), (.aload_n 0, 0, 0, 0), (.iload_n 2, 0, 0, 0), (.putfield 183, 5, 3, 0), (.iconst (-1), 0, 0, (-1))] [] (q := 11) (L' := [some (.ref a0), some (.int b1), some (.int b2)]) (st' := [.int (J (-1))]) (v1 := (si (si v a0 2 b1) a0 3 b2)) (by decide +kernel) rfl ⟨h1, h1, trivial⟩ ?_
  refine sim_lt (x := (si (si v a0 2 b1) a0 3 b2)) ?_
  generalize (si (si v a0 2 b1) a0 3 b2) = w2
  exact sim_iret (by decide +kernel) rfl rfl rfl
def B_gc_waitOutput : bd := (⟨"GateCounter", "waitOutput", "()I"⟩, prog_1_method_48_code, 2, (some .int), [], 5, 6)
theorem m_gc_waitOutput : mV B_gc_waitOutput 5 0 := ⟨⟨⟨by decide +kernel, Or.inl rfl⟩, rfl, (List.mem_of_getElem? (i := 855) (by decide +kernel)), by decide +kernel, (List.mem_of_getElem? (i := 95) (by decide +kernel)), ⟨by decide, by decide⟩, by decide⟩, rfl, (by unfold nar; decide +kernel), (List.mem_of_getElem? (i := 853) (by decide +kernel)), rfl, (List.mem_of_getElem? (i := 854) (by decide +kernel))⟩
noncomputable def F_gc_waitOutput (N : Nat) (a0 : Nat) (S : shp) (v : vl) : Option (Int32 × shp × vl) :=
  grd (kin S a0 = some (0, 5)) <| (gr S a0 5).bind fun r2 => grd (kin S r2 = some (0, 4)) <| (gr S r2 7).bind fun r5 => grd (kin S r5 = some (0, 3)) <| (F_sg_timeOfOutput N r5 (J 1) S v).bind fun x8 => (if x8 = (J (-1)) then (F_sg_reasonForNoEnd r5 S v).bind fun x9 => (F_gc_refuse a0 x9 (J 0) S v).bind fun (x10, w11) => some ((x10, S, w11)) else (F_gc_acceptChange N a0 S v).bind fun (S12, w13) => (gr S12 a0 5).bind fun r15 => grd (kin S12 r15 = some (0, 4)) <| (F_st_passTo N r15 x8 S12 w13).bind fun w18 => some ((x8, S12, w18)))
theorem ok_gc_waitOutput (N : Nat) (a0 : Nat) (S : shp) (v : vl) : SimK B_gc_waitOutput 0 (entB (bN B_gc_waitOutput) [.ref a0]) [] S v (F_gc_waitOutput N a0 S v) (ρgi) := by
  show SimK B_gc_waitOutput 0 [some (.ref a0), none] [] S v (F_gc_waitOutput N a0 S v) _
  unfold F_gc_waitOutput
  refine sim_grd fun h1 => ?_
  refine sim_bind fun r2 h3 => ?_
  refine sim_grd fun h4 => ?_
  refine sim_bind fun r5 h6 => ?_
  refine sim_seg [(.aload_n 0, 0, 0, 0), (.getfield 26, 5, 5, 0), (.getfield 69, 4, 7, 0), (.iconst 1, 0, 0, 1)] [r2, r5] (q := 8) (L' := [some (.ref a0), none]) (st' := [.int (J 1), .ref r5]) (v1 := v) (by decide +kernel) rfl ⟨⟨h1, h3⟩, ⟨h4, h6⟩, trivial⟩ ?_
  refine sim_grd fun h7 => ?_
  refine sc_ri (pc3 := 11) (cf_V (idx := 204) (ci := 3) [.int (J 1)] m_sg_timeOfOutput (by decide) ⟨by decide, by decide⟩ (List.mem_of_getElem? (i := 617) (by decide +kernel)) rfl (Nat.le_of_ble_eq_true rfl) h7 (by decide +kernel) (Nat.le_of_ble_eq_true rfl) rfl) (ok_sg_timeOfOutput N r5 (J 1) S v) rfl (fun x8 => ?_)
  refine sim_seg [(.istore_n 1, 0, 0, 0)] [] (q := 12) (L' := [some (.ref a0), some (.int x8)]) (st' := []) (v1 := v) (by decide +kernel) rfl trivial ?_
  refine sim_seg [(.iload_n 1, 0, 0, 0), (.iconst (-1), 0, 0, (-1))] [] (q := 14) (L' := [some (.ref a0), some (.int x8)]) (st' := [.int (J (-1)), .int x8]) (v1 := v) (by decide +kernel) rfl trivial ?_
  refine sim_ne (o := 19) (tg := 33) (f := 17) (by decide +kernel) rfl rfl (fun _ => ?_) (fun _ => ?_)
  · refine sim_seg [(.aload_n 0, 0, 0, 0), (.aload_n 0, 0, 0, 0), (.getfield 26, 5, 5, 0), (.getfield 69, 4, 7, 0)] [r2, r5] (q := 25) (L' := [some (.ref a0), some (.int x8)]) (st' := [.ref r5, .ref a0]) (v1 := v) (by decide +kernel) rfl ⟨⟨h1, h3⟩, ⟨h4, h6⟩, trivial⟩ ?_
    refine sc_ri (pc3 := 28) (cf_V (idx := 293) (ci := 3) [] m_sg_reasonForNoEnd (by decide) ⟨by decide, by decide⟩ (List.mem_of_getElem? (i := 856) (by decide +kernel)) rfl (Nat.le_of_ble_eq_true rfl) h7 (by decide +kernel) (Nat.le_of_ble_eq_true rfl) rfl) (ok_sg_reasonForNoEnd r5 S v) rfl (fun x9 => ?_)
    refine sim_seg [(.iconst 0, 0, 0, 0)] [] (q := 29) (L' := [some (.ref a0), some (.int x8)]) (st' := [.int (J 0), .int x9, .ref a0]) (v1 := v) (by decide +kernel) rfl trivial ?_
    refine sc_pi (pc3 := 32) (cf_V (idx := 296) (ci := 5) [.int x9, .int (J 0)] m_gc_refuse (by decide) ⟨by decide, by decide⟩ (List.mem_of_getElem? (i := 857) (by decide +kernel)) rfl (Nat.le_of_ble_eq_true rfl) h1 (by decide +kernel) (Nat.le_of_ble_eq_true rfl) rfl) (ok_gc_refuse a0 x9 (J 0) S v) rfl (fun x10 w11 => ?_)
    exact sim_iret (by decide +kernel) rfl rfl rfl
  · refine sim_seg [(.aload_n 0, 0, 0, 0)] [] (q := 34) (L' := [some (.ref a0), some (.int x8)]) (st' := [.ref a0]) (v1 := v) (by decide +kernel) rfl trivial ?_
    refine sc_gv (pc3 := 37) (cf_V (idx := 299) (ci := 5) [] m_gc_acceptChange (by decide) ⟨by decide, by decide⟩ (List.mem_of_getElem? (i := 861) (by decide +kernel)) rfl (Nat.le_of_ble_eq_true rfl) h1 (by decide +kernel) (Nat.le_of_ble_eq_true rfl) rfl) (ok_gc_acceptChange N a0 S v) rfl (fun S12 w13 h14 => ?_)
    refine sim_bind fun r15 h16 => ?_
    refine sim_seg [(.aload_n 0, 0, 0, 0), (.getfield 26, 5, 5, 0), (.iload_n 1, 0, 0, 0)] [r15] (q := 42) (L' := [some (.ref a0), some (.int x8)]) (st' := [.int x8, .ref r15]) (v1 := w13) (by decide +kernel) rfl ⟨⟨(h14.2.2.2.2 _ _ h1), h16⟩, trivial⟩ ?_
    refine sim_grd fun h17 => ?_
    refine sc_pv (pc3 := 45) (cf_V (idx := 292) (ci := 4) [.int x8] m_st_passTo (by decide) ⟨by decide, by decide⟩ (List.mem_of_getElem? (i := 870) (by decide +kernel)) rfl (Nat.le_of_ble_eq_true rfl) h17 (by decide +kernel) (Nat.le_of_ble_eq_true rfl) rfl) (ok_st_passTo N r15 x8 S12 w13) rfl (fun w18 => ?_)
    refine sim_seg [(.iload_n 1, 0, 0, 0)] [] (q := 46) (L' := [some (.ref a0), some (.int x8)]) (st' := [.int x8]) (v1 := w18) (by decide +kernel) rfl trivial ?_
    exact sim_iret (by decide +kernel) rfl rfl rfl
def B_gc_accept : bd := (⟨"GateCounter", "accept", "(LGateCounter$State;)I"⟩, prog_1_method_73_code, 2, (some .int), [], 5, 6)
theorem m_gc_accept : mV B_gc_accept 5 1 := ⟨⟨⟨by decide +kernel, Or.inl rfl⟩, rfl, (List.mem_of_getElem? (i := 878) (by decide +kernel)), by decide +kernel, (List.mem_of_getElem? (i := 95) (by decide +kernel)), ⟨by decide, by decide⟩, by decide⟩, rfl, (by unfold nar; decide +kernel), (List.mem_of_getElem? (i := 877) (by decide +kernel)), rfl, (List.mem_of_getElem? (i := 27) (by decide +kernel))⟩
noncomputable def F_gc_accept (N : Nat) (a0 : Nat) (a1 : Nat) (S : shp) (v : vl) : Option (Int32 × shp × vl) :=
  grd (kin S a0 = some (0, 5)) <| (F_gc_acceptChange N a0 S v).bind fun (S2, w3) => (gr S2 a0 5).bind fun r5 => grd (kin S2 r5 = some (0, 4)) <| (F_st_copyFrom N r5 a1 S2 w3).bind fun (S8, w9) => (gr S8 a0 5).bind fun r11 => grd (kin S8 r11 = some (0, 4)) <| (F_st_latestNumber N r11 (J 4) S8 w9).bind fun x14 => some ((x14, S8, w9))
theorem ok_gc_accept (N : Nat) (a0 : Nat) (a1 : Nat) (S : shp) (v : vl) : SimK B_gc_accept 0 (entB (bN B_gc_accept) [.ref a0, .ref a1]) [] S v (F_gc_accept N a0 a1 S v) (ρgi) := by
  show SimK B_gc_accept 0 [some (.ref a0), some (.ref a1)] [] S v (F_gc_accept N a0 a1 S v) _
  unfold F_gc_accept
  refine sim_seg [(.aload_n 0, 0, 0, 0)] [] (q := 1) (L' := [some (.ref a0), some (.ref a1)]) (st' := [.ref a0]) (v1 := v) (by decide +kernel) rfl trivial ?_
  refine sim_grd fun h1 => ?_
  refine sc_gv (pc3 := 4) (cf_V (idx := 299) (ci := 5) [] m_gc_acceptChange (by decide) ⟨by decide, by decide⟩ (List.mem_of_getElem? (i := 861) (by decide +kernel)) rfl (Nat.le_of_ble_eq_true rfl) h1 (by decide +kernel) (Nat.le_of_ble_eq_true rfl) rfl) (ok_gc_acceptChange N a0 S v) rfl (fun S2 w3 h4 => ?_)
  refine sim_bind fun r5 h6 => ?_
  refine sim_seg [(.aload_n 0, 0, 0, 0), (.getfield 26, 5, 5, 0), (.aload_n 1, 0, 0, 0)] [r5] (q := 9) (L' := [some (.ref a0), some (.ref a1)]) (st' := [.ref a1, .ref r5]) (v1 := w3) (by decide +kernel) rfl ⟨⟨(h4.2.2.2.2 _ _ h1), h6⟩, trivial⟩ ?_
  refine sim_grd fun h7 => ?_
  refine sc_gv (pc3 := 12) (cf_V (idx := 58) (ci := 4) [.ref a1] m_st_copyFrom (by decide) ⟨by decide, by decide⟩ (List.mem_of_getElem? (i := 570) (by decide +kernel)) rfl (Nat.le_of_ble_eq_true rfl) h7 (by decide +kernel) (Nat.le_of_ble_eq_true rfl) rfl) (ok_st_copyFrom N r5 a1 S2 w3) rfl (fun S8 w9 h10 => ?_)
  refine sim_bind fun r11 h12 => ?_
  refine sim_seg [(.aload_n 0, 0, 0, 0), (.getfield 26, 5, 5, 0), (.iconst 4, 0, 0, 4)] [r11] (q := 17) (L' := [some (.ref a0), some (.ref a1)]) (st' := [.int (J 4), .ref r11]) (v1 := w9) (by decide +kernel) rfl ⟨⟨(h10.2.2.2.2 _ _ (h4.2.2.2.2 _ _ h1)), h12⟩, trivial⟩ ?_
  refine sim_grd fun h13 => ?_
  refine sc_ri (pc3 := 20) (cf_V (idx := 235) (ci := 4) [.int (J 4)] m_st_latestNumber (by decide) ⟨by decide, by decide⟩ (List.mem_of_getElem? (i := 779) (by decide +kernel)) rfl (Nat.le_of_ble_eq_true rfl) h13 (by decide +kernel) (Nat.le_of_ble_eq_true rfl) rfl) (ok_st_latestNumber N r11 (J 4) S8 w9) rfl (fun x14 => ?_)
  exact sim_iret (by decide +kernel) rfl rfl rfl
def B_gc_gate : bd := (⟨"GateCounter", "gate", "()I"⟩, prog_1_method_49_code, 2, (some .int), [], 5, 7)
theorem m_gc_gate : mV B_gc_gate 5 0 := ⟨⟨⟨by decide +kernel, Or.inl rfl⟩, rfl, (List.mem_of_getElem? (i := 874) (by decide +kernel)), by decide +kernel, (List.mem_of_getElem? (i := 95) (by decide +kernel)), ⟨by decide, by decide⟩, by decide⟩, rfl, (by unfold nar; decide +kernel), (List.mem_of_getElem? (i := 872) (by decide +kernel)), rfl, (List.mem_of_getElem? (i := 873) (by decide +kernel))⟩
noncomputable def F_gc_gate (N : Nat) (a0 : Nat) (S : shp) (v : vl) : Option (Int32 × shp × vl) :=
  grd (kin S a0 = some (0, 5)) <| (gr S a0 6).bind fun r2 => (F_gc_fresh N a0 r2 S v).bind fun (q4, S5, w6) => oc2 q4 none fun r8 => grd (kin S5 r8 = some (0, 4)) <| (F_st_measureByGate N r8 S5 w6).bind fun (x10, S11, w12) => (if x10 = (J 0) then (gr S11 a0 6).bind fun r14 => (F_gc_accept N a0 r14 S11 w12).bind fun (x16, S17, w18) => some ((x16, S17, w18)) else (F_gc_refuse a0 x10 (J 0) S11 w12).bind fun (x20, w21) => some ((x20, S11, w21)))
theorem ok_gc_gate (N : Nat) (a0 : Nat) (S : shp) (v : vl) : SimK B_gc_gate 0 (entB (bN B_gc_gate) [.ref a0]) [] S v (F_gc_gate N a0 S v) (ρgi) := by
  show SimK B_gc_gate 0 [some (.ref a0), none] [] S v (F_gc_gate N a0 S v) _
  unfold F_gc_gate
  refine sim_grd fun h1 => ?_
  refine sim_bind fun r2 h3 => ?_
  refine sim_seg [(.aload_n 0, 0, 0, 0), (.aload_n 0, 0, 0, 0), (.getfield 30, 5, 6, 0)] [r2] (q := 5) (L' := [some (.ref a0), none]) (st' := [.ref r2, .ref a0]) (v1 := v) (by decide +kernel) rfl ⟨⟨h1, h3⟩, trivial⟩ ?_
  refine sc_gq (pc3 := 8) (cf_V (idx := 196) (ci := 5) [.ref r2] m_gc_fresh (by decide) ⟨by decide, by decide⟩ (List.mem_of_getElem? (i := 645) (by decide +kernel)) rfl (Nat.le_of_ble_eq_true rfl) h1 (by decide +kernel) (Nat.le_of_ble_eq_true rfl) rfl) (ok_gc_fresh N a0 r2 S v) rfl (fun q4 S5 w6 h7 => ?_)
  refine sim_oc2 (fun _ => sim_none) (fun r8 _ => ?_)
  refine sim_grd fun h9 => ?_
  refine sc_gi (pc3 := 11) (cf_V (idx := 232) (ci := 4) [] m_st_measureByGate (by decide) ⟨by decide, by decide⟩ (List.mem_of_getElem? (i := 761) (by decide +kernel)) rfl (Nat.le_of_ble_eq_true rfl) h9 (by decide +kernel) (Nat.le_of_ble_eq_true rfl) rfl) (ok_st_measureByGate N r8 S5 w6) rfl (fun x10 S11 w12 h13 => ?_)
  refine sim_seg [(.istore_n 1, 0, 0, 0)] [] (q := 12) (L' := [some (.ref a0), some (.int x10)]) (st' := []) (v1 := w12) (by decide +kernel) rfl trivial ?_
  refine sim_seg [(.iload_n 1, 0, 0, 0)] [] (q := 13) (L' := [some (.ref a0), some (.int x10)]) (st' := [.int x10]) (v1 := w12) (by decide +kernel) rfl trivial ?_
  refine sim_ne0 (o := 14) (tg := 27) (f := 16) (by decide +kernel) rfl rfl (fun _ => ?_) (fun _ => ?_)
  · refine sim_bind fun r14 h15 => ?_
    refine sim_seg [(.aload_n 0, 0, 0, 0), (.aload_n 0, 0, 0, 0), (.getfield 30, 5, 6, 0)] [r14] (q := 21) (L' := [some (.ref a0), some (.int x10)]) (st' := [.ref r14, .ref a0]) (v1 := w12) (by decide +kernel) rfl ⟨⟨(h13.2.2.2.2 _ _ (h7.2.2.2.2 _ _ h1)), h15⟩, trivial⟩ ?_
    refine sc_gi (pc3 := 24) (cf_V (idx := 302) (ci := 5) [.ref r14] m_gc_accept (by decide) ⟨by decide, by decide⟩ (List.mem_of_getElem? (i := 875) (by decide +kernel)) rfl (Nat.le_of_ble_eq_true rfl) (h13.2.2.2.2 _ _ (h7.2.2.2.2 _ _ h1)) (by decide +kernel) (Nat.le_of_ble_eq_true rfl) rfl) (ok_gc_accept N a0 r14 S11 w12) rfl (fun x16 S17 w18 h19 => ?_)
    refine sim_seg [(.goto 9, 0, 0, 0)] [] (q := 33) (L' := [some (.ref a0), some (.int x10)]) (st' := [.int x16]) (v1 := w18) (by decide +kernel) rfl trivial ?_
    exact sim_iret (by decide +kernel) rfl rfl rfl
  · refine sim_seg [(.aload_n 0, 0, 0, 0), (.iload_n 1, 0, 0, 0), (.iconst 0, 0, 0, 0)] [] (q := 30) (L' := [some (.ref a0), some (.int x10)]) (st' := [.int (J 0), .int x10, .ref a0]) (v1 := w12) (by decide +kernel) rfl trivial ?_
    refine sc_pi (pc3 := 33) (cf_V (idx := 296) (ci := 5) [.int x10, .int (J 0)] m_gc_refuse (by decide) ⟨by decide, by decide⟩ (List.mem_of_getElem? (i := 857) (by decide +kernel)) rfl (Nat.le_of_ble_eq_true rfl) (h13.2.2.2.2 _ _ (h7.2.2.2.2 _ _ h1)) (by decide +kernel) (Nat.le_of_ble_eq_true rfl) rfl) (ok_gc_refuse a0 x10 (J 0) S11 w12) rfl (fun x20 w21 => ?_)
    exact sim_iret (by decide +kernel) rfl rfl rfl
def B_gc_period : bd := (⟨"GateCounter", "period", "()I"⟩, prog_1_method_50_code, 2, (some .int), [], 5, 7)
theorem m_gc_period : mV B_gc_period 5 0 := ⟨⟨⟨by decide +kernel, Or.inl rfl⟩, rfl, (List.mem_of_getElem? (i := 882) (by decide +kernel)), by decide +kernel, (List.mem_of_getElem? (i := 95) (by decide +kernel)), ⟨by decide, by decide⟩, by decide⟩, rfl, (by unfold nar; decide +kernel), (List.mem_of_getElem? (i := 880) (by decide +kernel)), rfl, (List.mem_of_getElem? (i := 881) (by decide +kernel))⟩
noncomputable def F_gc_period (N : Nat) (a0 : Nat) (S : shp) (v : vl) : Option (Int32 × shp × vl) :=
  grd (kin S a0 = some (0, 5)) <| (gr S a0 7).bind fun r2 => (F_gc_fresh N a0 r2 S v).bind fun (q4, S5, w6) => oc2 q4 none fun r8 => grd (kin S5 r8 = some (0, 4)) <| (F_st_measureByPeriod N r8 S5 w6).bind fun (x10, S11, w12) => (if x10 = (J 0) then (gr S11 a0 7).bind fun r14 => (F_gc_accept N a0 r14 S11 w12).bind fun (x16, S17, w18) => some ((x16, S17, w18)) else (F_gc_refuse a0 x10 (J 0) S11 w12).bind fun (x20, w21) => some ((x20, S11, w21)))
theorem ok_gc_period (N : Nat) (a0 : Nat) (S : shp) (v : vl) : SimK B_gc_period 0 (entB (bN B_gc_period) [.ref a0]) [] S v (F_gc_period N a0 S v) (ρgi) := by
  show SimK B_gc_period 0 [some (.ref a0), none] [] S v (F_gc_period N a0 S v) _
  unfold F_gc_period
  refine sim_grd fun h1 => ?_
  refine sim_bind fun r2 h3 => ?_
  refine sim_seg [(.aload_n 0, 0, 0, 0), (.aload_n 0, 0, 0, 0), (.getfield 33, 5, 7, 0)] [r2] (q := 5) (L' := [some (.ref a0), none]) (st' := [.ref r2, .ref a0]) (v1 := v) (by decide +kernel) rfl ⟨⟨h1, h3⟩, trivial⟩ ?_
  refine sc_gq (pc3 := 8) (cf_V (idx := 196) (ci := 5) [.ref r2] m_gc_fresh (by decide) ⟨by decide, by decide⟩ (List.mem_of_getElem? (i := 645) (by decide +kernel)) rfl (Nat.le_of_ble_eq_true rfl) h1 (by decide +kernel) (Nat.le_of_ble_eq_true rfl) rfl) (ok_gc_fresh N a0 r2 S v) rfl (fun q4 S5 w6 h7 => ?_)
  refine sim_oc2 (fun _ => sim_none) (fun r8 _ => ?_)
  refine sim_grd fun h9 => ?_
  refine sc_gi (pc3 := 11) (cf_V (idx := 238) (ci := 4) [] m_st_measureByPeriod (by decide) ⟨by decide, by decide⟩ (List.mem_of_getElem? (i := 653) (by decide +kernel)) rfl (Nat.le_of_ble_eq_true rfl) h9 (by decide +kernel) (Nat.le_of_ble_eq_true rfl) rfl) (ok_st_measureByPeriod N r8 S5 w6) rfl (fun x10 S11 w12 h13 => ?_)
  refine sim_seg [(.istore_n 1, 0, 0, 0)] [] (q := 12) (L' := [some (.ref a0), some (.int x10)]) (st' := []) (v1 := w12) (by decide +kernel) rfl trivial ?_
  refine sim_seg [(.iload_n 1, 0, 0, 0)] [] (q := 13) (L' := [some (.ref a0), some (.int x10)]) (st' := [.int x10]) (v1 := w12) (by decide +kernel) rfl trivial ?_
  refine sim_ne0 (o := 14) (tg := 27) (f := 16) (by decide +kernel) rfl rfl (fun _ => ?_) (fun _ => ?_)
  · refine sim_bind fun r14 h15 => ?_
    refine sim_seg [(.aload_n 0, 0, 0, 0), (.aload_n 0, 0, 0, 0), (.getfield 33, 5, 7, 0)] [r14] (q := 21) (L' := [some (.ref a0), some (.int x10)]) (st' := [.ref r14, .ref a0]) (v1 := w12) (by decide +kernel) rfl ⟨⟨(h13.2.2.2.2 _ _ (h7.2.2.2.2 _ _ h1)), h15⟩, trivial⟩ ?_
    refine sc_gi (pc3 := 24) (cf_V (idx := 302) (ci := 5) [.ref r14] m_gc_accept (by decide) ⟨by decide, by decide⟩ (List.mem_of_getElem? (i := 875) (by decide +kernel)) rfl (Nat.le_of_ble_eq_true rfl) (h13.2.2.2.2 _ _ (h7.2.2.2.2 _ _ h1)) (by decide +kernel) (Nat.le_of_ble_eq_true rfl) rfl) (ok_gc_accept N a0 r14 S11 w12) rfl (fun x16 S17 w18 h19 => ?_)
    refine sim_seg [(.goto 9, 0, 0, 0)] [] (q := 33) (L' := [some (.ref a0), some (.int x10)]) (st' := [.int x16]) (v1 := w18) (by decide +kernel) rfl trivial ?_
    exact sim_iret (by decide +kernel) rfl rfl rfl
  · refine sim_seg [(.aload_n 0, 0, 0, 0), (.iload_n 1, 0, 0, 0), (.iconst 0, 0, 0, 0)] [] (q := 30) (L' := [some (.ref a0), some (.int x10)]) (st' := [.int (J 0), .int x10, .ref a0]) (v1 := w12) (by decide +kernel) rfl trivial ?_
    refine sc_pi (pc3 := 33) (cf_V (idx := 296) (ci := 5) [.int x10, .int (J 0)] m_gc_refuse (by decide) ⟨by decide, by decide⟩ (List.mem_of_getElem? (i := 857) (by decide +kernel)) rfl (Nat.le_of_ble_eq_true rfl) (h13.2.2.2.2 _ _ (h7.2.2.2.2 _ _ h1)) (by decide +kernel) (Nat.le_of_ble_eq_true rfl) rfl) (ok_gc_refuse a0 x10 (J 0) S11 w12) rfl (fun x20 w21 => ?_)
    exact sim_iret (by decide +kernel) rfl rfl rfl
def B_gc_choice : bd := (⟨"GateCounter", "choice", "(II)I"⟩, prog_1_method_52_code, 4, (some .int), [], 5, 3)
theorem m_gc_choice : mV B_gc_choice 5 2 := ⟨⟨⟨by decide +kernel, Or.inl rfl⟩, rfl, (List.mem_of_getElem? (i := 890) (by decide +kernel)), by decide +kernel, (List.mem_of_getElem? (i := 95) (by decide +kernel)), ⟨by decide, by decide⟩, by decide⟩, rfl, (by unfold nar; decide +kernel), (List.mem_of_getElem? (i := 889) (by decide +kernel)), rfl, (List.mem_of_getElem? (i := 28) (by decide +kernel))⟩
noncomputable def F_gc_choice (N : Nat) (a0 : Nat) (b1 : Int32) (b2 : Int32) (S : shp) (v : vl) : Option Int32 :=
  (if b1 = (J 0) then (if b2 = (J 0) then grd (kin S a0 = some (0, 5)) <| (gr S a0 6).bind fun r2 => grd (kin S r2 = some (0, 4)) <| (F_st_latestNumber N r2 (J 3) S v).bind fun x5 => (gr S a0 7).bind fun r6 => grd (kin S r6 = some (0, 4)) <| (F_st_latestNumber N r6 (J 3) S v).bind fun x9 => (if (J 0) < (x5 - x9) then some ((J 1)) else (if (x5 - x9) < (J 0) then some ((J 2)) else some ((J 3)))) else some ((J 4))) else (if b2 = (J 0) then some ((J 5)) else some ((J 0))))
theorem ok_gc_choice (N : Nat) (a0 : Nat) (b1 : Int32) (b2 : Int32) (S : shp) (v : vl) : SimK B_gc_choice 0 (entB (bN B_gc_choice) [.ref a0, .int b1, .int b2]) [] S v (F_gc_choice N a0 b1 b2 S v) (ρri S v) := by
  show SimK B_gc_choice 0 [some (.ref a0), some (.int b1), some (.int b2), none] [] S v (F_gc_choice N a0 b1 b2 S v) _
  unfold F_gc_choice
  refine sim_seg [(.iload_n 1, 0, 0, 0)] [] (q := 1) (L' := [some (.ref a0), some (.int b1), some (.int b2), none]) (st' := [.int b1]) (v1 := v) (by decide +kernel) rfl trivial ?_
  refine sim_eq0 (o := 13) (tg := 14) (f := 4) (by decide +kernel) rfl rfl (fun _ => ?_) (fun _ => ?_)
  · refine sim_seg [(.iload_n 2, 0, 0, 0)] [] (q := 15) (L' := [some (.ref a0), some (.int b1), some (.int b2), none]) (st' := [.int b2]) (v1 := v) (by decide +kernel) rfl trivial ?_
    refine sim_eq0 (o := 5) (tg := 20) (f := 18) (by decide +kernel) rfl rfl (fun _ => ?_) (fun _ => ?_)
    · refine sim_grd fun h1 => ?_
      refine sim_bind fun r2 h3 => ?_
      refine sim_seg [(.aload_n 0, 0, 0, 0), (.getfield 30, 5, 6, 0), (.iconst 3, 0, 0, 3)] [r2] (q := 25) (L' := [some (.ref a0), some (.int b1), some (.int b2), none]) (st' := [.int (J 3), .ref r2]) (v1 := v) (by decide +kernel) rfl ⟨⟨h1, h3⟩, trivial⟩ ?_
      refine sim_grd fun h4 => ?_
      refine sc_ri (pc3 := 28) (cf_V (idx := 235) (ci := 4) [.int (J 3)] m_st_latestNumber (by decide) ⟨by decide, by decide⟩ (List.mem_of_getElem? (i := 779) (by decide +kernel)) rfl (Nat.le_of_ble_eq_true rfl) h4 (by decide +kernel) (Nat.le_of_ble_eq_true rfl) rfl) (ok_st_latestNumber N r2 (J 3) S v) rfl (fun x5 => ?_)
      refine sim_bind fun r6 h7 => ?_
      refine sim_seg [(.aload_n 0, 0, 0, 0), (.getfield 33, 5, 7, 0), (.iconst 3, 0, 0, 3)] [r6] (q := 33) (L' := [some (.ref a0), some (.int b1), some (.int b2), none]) (st' := [.int (J 3), .ref r6, .int x5]) (v1 := v) (by decide +kernel) rfl ⟨⟨h1, h7⟩, trivial⟩ ?_
      refine sim_grd fun h8 => ?_
      refine sc_ri (pc3 := 36) (cf_V (idx := 235) (ci := 4) [.int (J 3)] m_st_latestNumber (by decide) ⟨by decide, by decide⟩ (List.mem_of_getElem? (i := 779) (by decide +kernel)) rfl (Nat.le_of_ble_eq_true rfl) h8 (by decide +kernel) (Nat.le_of_ble_eq_true rfl) rfl) (ok_st_latestNumber N r6 (J 3) S v) rfl (fun x9 => ?_)
      refine sim_seg [(.isub, 0, 0, 0), (.istore_n 3, 0, 0, 0)] [] (q := 38) (L' := [some (.ref a0), some (.int b1), some (.int b2), some (.int (x5 - x9))]) (st' := []) (v1 := v) (by decide +kernel) rfl trivial ?_
      refine sim_seg [(.iload_n 3, 0, 0, 0)] [] (q := 39) (L' := [some (.ref a0), some (.int b1), some (.int b2), some (.int (x5 - x9))]) (st' := [.int (x5 - x9)]) (v1 := v) (by decide +kernel) rfl trivial ?_
      refine sim_le0 (o := 7) (tg := 46) (f := 42) (by decide +kernel) rfl rfl (fun _ => ?_) (fun _ => ?_)
      · refine sim_seg [(.iconst 1, 0, 0, 1), (.goto 12, 0, 0, 0)] [] (q := 55) (L' := [some (.ref a0), some (.int b1), some (.int b2), some (.int (x5 - x9))]) (st' := [.int (J 1)]) (v1 := v) (by decide +kernel) rfl trivial ?_
        exact sim_iret (by decide +kernel) rfl rfl rfl
      · refine sim_seg [(.iload_n 3, 0, 0, 0)] [] (q := 47) (L' := [some (.ref a0), some (.int b1), some (.int b2), some (.int (x5 - x9))]) (st' := [.int (x5 - x9)]) (v1 := v) (by decide +kernel) rfl trivial ?_
        refine sim_ge0 (o := 7) (tg := 54) (f := 50) (by decide +kernel) rfl rfl (fun _ => ?_) (fun _ => ?_)
        · refine sim_seg [(.iconst 2, 0, 0, 2), (.goto 4, 0, 0, 0)] [] (q := 55) (L' := [some (.ref a0), some (.int b1), some (.int b2), some (.int (x5 - x9))]) (st' := [.int (J 2)]) (v1 := v) (by decide +kernel) rfl trivial ?_
          exact sim_iret (by decide +kernel) rfl rfl rfl
        · refine sim_seg [(.iconst 3, 0, 0, 3)] [] (q := 55) (L' := [some (.ref a0), some (.int b1), some (.int b2), some (.int (x5 - x9))]) (st' := [.int (J 3)]) (v1 := v) (by decide +kernel) rfl trivial ?_
          exact sim_iret (by decide +kernel) rfl rfl rfl
    · refine sim_seg [(.iconst 4, 0, 0, 4)] [] (q := 19) (L' := [some (.ref a0), some (.int b1), some (.int b2), none]) (st' := [.int (J 4)]) (v1 := v) (by decide +kernel) rfl trivial ?_
      exact sim_iret (by decide +kernel) rfl rfl rfl
  · refine sim_seg [(.iload_n 2, 0, 0, 0)] [] (q := 5) (L' := [some (.ref a0), some (.int b1), some (.int b2), none]) (st' := [.int b2]) (v1 := v) (by decide +kernel) rfl trivial ?_
    refine sim_eq0 (o := 7) (tg := 12) (f := 8) (by decide +kernel) rfl rfl (fun _ => ?_) (fun _ => ?_)
    · refine sim_seg [(.iconst 5, 0, 0, 5)] [] (q := 13) (L' := [some (.ref a0), some (.int b1), some (.int b2), none]) (st' := [.int (J 5)]) (v1 := v) (by decide +kernel) rfl trivial ?_
      exact sim_iret (by decide +kernel) rfl rfl rfl
    · refine sim_seg [(.iconst 0, 0, 0, 0), (.goto 4, 0, 0, 0)] [] (q := 13) (L' := [some (.ref a0), some (.int b1), some (.int b2), none]) (st' := [.int (J 0)]) (v1 := v) (by decide +kernel) rfl trivial ?_
      exact sim_iret (by decide +kernel) rfl rfl rfl
def B_gc_choose : bd := (⟨"GateCounter", "choose", "()I"⟩, prog_1_method_51_code, 3, (some .int), [], 5, 7)
theorem m_gc_choose : mV B_gc_choose 5 0 := ⟨⟨⟨by decide +kernel, Or.inl rfl⟩, rfl, (List.mem_of_getElem? (i := 886) (by decide +kernel)), by decide +kernel, (List.mem_of_getElem? (i := 95) (by decide +kernel)), ⟨by decide, by decide⟩, by decide⟩, rfl, (by unfold nar; decide +kernel), (List.mem_of_getElem? (i := 884) (by decide +kernel)), rfl, (List.mem_of_getElem? (i := 885) (by decide +kernel))⟩
noncomputable def F_gc_choose (N : Nat) (a0 : Nat) (S : shp) (v : vl) : Option (Int32 × shp × vl) :=
  grd (kin S a0 = some (0, 5)) <| (gr S a0 6).bind fun r2 => (F_gc_fresh N a0 r2 S v).bind fun (q4, S5, w6) => oc2 q4 none fun r8 => grd (kin S5 r8 = some (0, 4)) <| (F_st_measureByGate N r8 S5 w6).bind fun (x10, S11, w12) => (gr S11 a0 7).bind fun r14 => (F_gc_fresh N a0 r14 S11 w12).bind fun (q16, S17, w18) => oc2 q16 none fun r20 => grd (kin S17 r20 = some (0, 4)) <| (F_st_measureByPeriod N r20 S17 w18).bind fun (x22, S23, w24) => (F_gc_choice N a0 x10 x22 S23 w24).bind fun x26 => lt (si w24 a0 4 x26) fun w27 => (if (gi w27 a0 4) = (J 0) then (F_gc_refuse a0 x10 x22 S23 w27).bind fun (x28, w29) => some ((x28, S23, w29)) else (if (gi w27 a0 4) = (J 2) then (gr S23 a0 7).bind fun r30 => (F_gc_accept N a0 r30 S23 w27).bind fun (x32, S33, w34) => some ((x32, S33, w34)) else (if (gi w27 a0 4) = (J 5) then (gr S23 a0 7).bind fun r36 => (F_gc_accept N a0 r36 S23 w27).bind fun (x38, S39, w40) => some ((x38, S39, w40)) else (gr S23 a0 6).bind fun r42 => (F_gc_accept N a0 r42 S23 w27).bind fun (x44, S45, w46) => some ((x44, S45, w46)))))
theorem ok_gc_choose (N : Nat) (a0 : Nat) (S : shp) (v : vl) : SimK B_gc_choose 0 (entB (bN B_gc_choose) [.ref a0]) [] S v (F_gc_choose N a0 S v) (ρgi) := by
  show SimK B_gc_choose 0 [some (.ref a0), none, none] [] S v (F_gc_choose N a0 S v) _
  unfold F_gc_choose
  refine sim_grd fun h1 => ?_
  refine sim_bind fun r2 h3 => ?_
  refine sim_seg [(.aload_n 0, 0, 0, 0), (.aload_n 0, 0, 0, 0), (.getfield 30, 5, 6, 0)] [r2] (q := 5) (L' := [some (.ref a0), none, none]) (st' := [.ref r2, .ref a0]) (v1 := v) (by decide +kernel) rfl ⟨⟨h1, h3⟩, trivial⟩ ?_
  refine sc_gq (pc3 := 8) (cf_V (idx := 196) (ci := 5) [.ref r2] m_gc_fresh (by decide) ⟨by decide, by decide⟩ (List.mem_of_getElem? (i := 645) (by decide +kernel)) rfl (Nat.le_of_ble_eq_true rfl) h1 (by decide +kernel) (Nat.le_of_ble_eq_true rfl) rfl) (ok_gc_fresh N a0 r2 S v) rfl (fun q4 S5 w6 h7 => ?_)
  refine sim_oc2 (fun _ => sim_none) (fun r8 _ => ?_)
  refine sim_grd fun h9 => ?_
  refine sc_gi (pc3 := 11) (cf_V (idx := 232) (ci := 4) [] m_st_measureByGate (by decide) ⟨by decide, by decide⟩ (List.mem_of_getElem? (i := 761) (by decide +kernel)) rfl (Nat.le_of_ble_eq_true rfl) h9 (by decide +kernel) (Nat.le_of_ble_eq_true rfl) rfl) (ok_st_measureByGate N r8 S5 w6) rfl (fun x10 S11 w12 h13 => ?_)
  refine sim_seg [(.istore_n 1, 0, 0, 0)] [] (q := 12) (L' := [some (.ref a0), some (.int x10), none]) (st' := []) (v1 := w12) (by decide +kernel) rfl trivial ?_
  refine sim_bind fun r14 h15 => ?_
  refine sim_seg [(.aload_n 0, 0, 0, 0), (.aload_n 0, 0, 0, 0), (.getfield 33, 5, 7, 0)] [r14] (q := 17) (L' := [some (.ref a0), some (.int x10), none]) (st' := [.ref r14, .ref a0]) (v1 := w12) (by decide +kernel) rfl ⟨⟨(h13.2.2.2.2 _ _ (h7.2.2.2.2 _ _ h1)), h15⟩, trivial⟩ ?_
  refine sc_gq (pc3 := 20) (cf_V (idx := 196) (ci := 5) [.ref r14] m_gc_fresh (by decide) ⟨by decide, by decide⟩ (List.mem_of_getElem? (i := 645) (by decide +kernel)) rfl (Nat.le_of_ble_eq_true rfl) (h13.2.2.2.2 _ _ (h7.2.2.2.2 _ _ h1)) (by decide +kernel) (Nat.le_of_ble_eq_true rfl) rfl) (ok_gc_fresh N a0 r14 S11 w12) rfl (fun q16 S17 w18 h19 => ?_)
  refine sim_oc2 (fun _ => sim_none) (fun r20 _ => ?_)
  refine sim_grd fun h21 => ?_
  refine sc_gi (pc3 := 23) (cf_V (idx := 238) (ci := 4) [] m_st_measureByPeriod (by decide) ⟨by decide, by decide⟩ (List.mem_of_getElem? (i := 653) (by decide +kernel)) rfl (Nat.le_of_ble_eq_true rfl) h21 (by decide +kernel) (Nat.le_of_ble_eq_true rfl) rfl) (ok_st_measureByPeriod N r20 S17 w18) rfl (fun x22 S23 w24 h25 => ?_)
  refine sim_seg [(.istore_n 2, 0, 0, 0)] [] (q := 24) (L' := [some (.ref a0), some (.int x10), some (.int x22)]) (st' := []) (v1 := w24) (by decide +kernel) rfl trivial ?_
  refine sim_seg [(.aload_n 0, 0, 0, 0), (.aload_n 0, 0, 0, 0), (.iload_n 1, 0, 0, 0), (.iload_n 2, 0, 0, 0)] [] (q := 28) (L' := [some (.ref a0), some (.int x10), some (.int x22)]) (st' := [.int x22, .int x10, .ref a0, .ref a0]) (v1 := w24) (by decide +kernel) rfl trivial ?_
  refine sc_ri (pc3 := 31) (cf_V (idx := 306) (ci := 5) [.int x10, .int x22] m_gc_choice (by decide) ⟨by decide, by decide⟩ (List.mem_of_getElem? (i := 887) (by decide +kernel)) rfl (Nat.le_of_ble_eq_true rfl) (h25.2.2.2.2 _ _ (h19.2.2.2.2 _ _ (h13.2.2.2.2 _ _ (h7.2.2.2.2 _ _ h1)))) (by decide +kernel) (Nat.le_of_ble_eq_true rfl) rfl) (ok_gc_choice N a0 x10 x22 S23 w24) rfl (fun x26 => ?_)
  refine sim_seg [(.putfield 186, 5, 4, 0), (.aload_n 0, 0, 0, 0)] [] (q := 35) (L' := [some (.ref a0), some (.int x10), some (.int x22)]) (st' := [.ref a0]) (v1 := (si w24 a0 4 x26)) (by decide +kernel) rfl ⟨(h25.2.2.2.2 _ _ (h19.2.2.2.2 _ _ (h13.2.2.2.2 _ _ (h7.2.2.2.2 _ _ h1)))), trivial⟩ ?_
  refine sim_lt (x := (si w24 a0 4 x26)) ?_
  generalize (si w24 a0 4 x26) = w27
  refine sim_seg [(.getfield 186, 5, 4, 0)] [] (q := 38) (L' := [some (.ref a0), some (.int x10), some (.int x22)]) (st' := [.int (gi w27 a0 4)]) (v1 := w27) (by decide +kernel) rfl ⟨(h25.2.2.2.2 _ _ (h19.2.2.2.2 _ _ (h13.2.2.2.2 _ _ (h7.2.2.2.2 _ _ h1)))), trivial⟩ ?_
  refine sim_ne0 (o := 10) (tg := 48) (f := 41) (by decide +kernel) rfl rfl (fun _ => ?_) (fun _ => ?_)
  · refine sim_seg [(.aload_n 0, 0, 0, 0), (.iload_n 1, 0, 0, 0), (.iload_n 2, 0, 0, 0)] [] (q := 44) (L' := [some (.ref a0), some (.int x10), some (.int x22)]) (st' := [.int x22, .int x10, .ref a0]) (v1 := w27) (by decide +kernel) rfl trivial ?_
    refine sc_pi (pc3 := 47) (cf_V (idx := 296) (ci := 5) [.int x10, .int x22] m_gc_refuse (by decide) ⟨by decide, by decide⟩ (List.mem_of_getElem? (i := 857) (by decide +kernel)) rfl (Nat.le_of_ble_eq_true rfl) (h25.2.2.2.2 _ _ (h19.2.2.2.2 _ _ (h13.2.2.2.2 _ _ (h7.2.2.2.2 _ _ h1)))) (by decide +kernel) (Nat.le_of_ble_eq_true rfl) rfl) (ok_gc_refuse a0 x10 x22 S23 w27) rfl (fun x28 w29 => ?_)
    exact sim_iret (by decide +kernel) rfl rfl rfl
  · refine sim_seg [(.aload_n 0, 0, 0, 0), (.aload_n 0, 0, 0, 0), (.getfield 186, 5, 4, 0), (.iconst 2, 0, 0, 2)] [] (q := 54) (L' := [some (.ref a0), some (.int x10), some (.int x22)]) (st' := [.int (J 2), .int (gi w27 a0 4), .ref a0]) (v1 := w27) (by decide +kernel) rfl ⟨(h25.2.2.2.2 _ _ (h19.2.2.2.2 _ _ (h13.2.2.2.2 _ _ (h7.2.2.2.2 _ _ h1)))), trivial⟩ ?_
    refine sim_eq (o := 11) (tg := 65) (f := 57) (by decide +kernel) rfl rfl (fun _ => ?_) (fun _ => ?_)
    · refine sim_bind fun r30 h31 => ?_
      refine sim_seg [(.aload_n 0, 0, 0, 0), (.getfield 33, 5, 7, 0), (.goto 7, 0, 0, 0)] [r30] (q := 76) (L' := [some (.ref a0), some (.int x10), some (.int x22)]) (st' := [.ref r30, .ref a0]) (v1 := w27) (by decide +kernel) rfl ⟨⟨(h25.2.2.2.2 _ _ (h19.2.2.2.2 _ _ (h13.2.2.2.2 _ _ (h7.2.2.2.2 _ _ h1)))), h31⟩, trivial⟩ ?_
      refine sc_gi (pc3 := 79) (cf_V (idx := 302) (ci := 5) [.ref r30] m_gc_accept (by decide) ⟨by decide, by decide⟩ (List.mem_of_getElem? (i := 875) (by decide +kernel)) rfl (Nat.le_of_ble_eq_true rfl) (h25.2.2.2.2 _ _ (h19.2.2.2.2 _ _ (h13.2.2.2.2 _ _ (h7.2.2.2.2 _ _ h1)))) (by decide +kernel) (Nat.le_of_ble_eq_true rfl) rfl) (ok_gc_accept N a0 r30 S23 w27) rfl (fun x32 S33 w34 h35 => ?_)
      exact sim_iret (by decide +kernel) rfl rfl rfl
    · refine sim_seg [(.aload_n 0, 0, 0, 0), (.getfield 186, 5, 4, 0), (.iconst 5, 0, 0, 5)] [] (q := 62) (L' := [some (.ref a0), some (.int x10), some (.int x22)]) (st' := [.int (J 5), .int (gi w27 a0 4), .ref a0]) (v1 := w27) (by decide +kernel) rfl ⟨(h25.2.2.2.2 _ _ (h19.2.2.2.2 _ _ (h13.2.2.2.2 _ _ (h7.2.2.2.2 _ _ h1)))), trivial⟩ ?_
      refine sim_ne (o := 10) (tg := 72) (f := 65) (by decide +kernel) rfl rfl (fun _ => ?_) (fun _ => ?_)
      · refine sim_bind fun r36 h37 => ?_
        refine sim_seg [(.aload_n 0, 0, 0, 0), (.getfield 33, 5, 7, 0), (.goto 7, 0, 0, 0)] [r36] (q := 76) (L' := [some (.ref a0), some (.int x10), some (.int x22)]) (st' := [.ref r36, .ref a0]) (v1 := w27) (by decide +kernel) rfl ⟨⟨(h25.2.2.2.2 _ _ (h19.2.2.2.2 _ _ (h13.2.2.2.2 _ _ (h7.2.2.2.2 _ _ h1)))), h37⟩, trivial⟩ ?_
        refine sc_gi (pc3 := 79) (cf_V (idx := 302) (ci := 5) [.ref r36] m_gc_accept (by decide) ⟨by decide, by decide⟩ (List.mem_of_getElem? (i := 875) (by decide +kernel)) rfl (Nat.le_of_ble_eq_true rfl) (h25.2.2.2.2 _ _ (h19.2.2.2.2 _ _ (h13.2.2.2.2 _ _ (h7.2.2.2.2 _ _ h1)))) (by decide +kernel) (Nat.le_of_ble_eq_true rfl) rfl) (ok_gc_accept N a0 r36 S23 w27) rfl (fun x38 S39 w40 h41 => ?_)
        exact sim_iret (by decide +kernel) rfl rfl rfl
      · refine sim_bind fun r42 h43 => ?_
        refine sim_seg [(.aload_n 0, 0, 0, 0), (.getfield 30, 5, 6, 0)] [r42] (q := 76) (L' := [some (.ref a0), some (.int x10), some (.int x22)]) (st' := [.ref r42, .ref a0]) (v1 := w27) (by decide +kernel) rfl ⟨⟨(h25.2.2.2.2 _ _ (h19.2.2.2.2 _ _ (h13.2.2.2.2 _ _ (h7.2.2.2.2 _ _ h1)))), h43⟩, trivial⟩ ?_
        refine sc_gi (pc3 := 79) (cf_V (idx := 302) (ci := 5) [.ref r42] m_gc_accept (by decide) ⟨by decide, by decide⟩ (List.mem_of_getElem? (i := 875) (by decide +kernel)) rfl (Nat.le_of_ble_eq_true rfl) (h25.2.2.2.2 _ _ (h19.2.2.2.2 _ _ (h13.2.2.2.2 _ _ (h7.2.2.2.2 _ _ h1)))) (by decide +kernel) (Nat.le_of_ble_eq_true rfl) rfl) (ok_gc_accept N a0 r42 S23 w27) rfl (fun x44 S45 w46 h47 => ?_)
        exact sim_iret (by decide +kernel) rfl rfl rfl
def B_gc_setting : bd := (⟨"GateCounter", "setting", "(I)I"⟩, prog_1_method_8_code, 2, (some .int), [], 5, 6)
theorem m_gc_setting : mV B_gc_setting 5 1 := ⟨⟨⟨by decide +kernel, Or.inl rfl⟩, rfl, (List.mem_of_getElem? (i := 1228) (by decide +kernel)), by decide +kernel, (List.mem_of_getElem? (i := 95) (by decide +kernel)), ⟨by decide, by decide⟩, by decide⟩, rfl, (by unfold nar; decide +kernel), (List.mem_of_getElem? (i := 1226) (by decide +kernel)), rfl, (List.mem_of_getElem? (i := 1227) (by decide +kernel))⟩
noncomputable def F_gc_setting (a0 : Nat) (b1 : Int32) (S : shp) (v : vl) : Option (Nat ⊕ Int32) :=
  (if b1 = J 0 then grd (kin S a0 = some (0, 5)) <| (gr S a0 5).bind fun r2 => grd (kin S r2 = some (0, 4)) <| (gr S r2 6).bind fun r5 => grd (kin S r5 = some (0, 0)) <| some (.inr (gi v r5 0)) else if b1 = J 1 then grd (kin S a0 = some (0, 5)) <| (gr S a0 5).bind fun r10 => grd (kin S r10 = some (0, 4)) <| (gr S r10 6).bind fun r13 => grd (kin S r13 = some (0, 0)) <| some (.inr (gi v r13 1)) else if b1 = J 2 then grd (kin S a0 = some (0, 5)) <| (gr S a0 5).bind fun r18 => grd (kin S r18 = some (0, 4)) <| (gr S r18 6).bind fun r21 => grd (kin S r21 = some (0, 0)) <| some (.inr (gi v r21 2)) else if b1 = J 3 then grd (kin S a0 = some (0, 5)) <| (gr S a0 5).bind fun r26 => grd (kin S r26 = some (0, 4)) <| (gr S r26 7).bind fun r29 => grd (kin S r29 = some (0, 3)) <| some (.inr (gi v r29 4)) else if b1 = J 4 then grd (kin S a0 = some (0, 5)) <| (gr S a0 5).bind fun r34 => grd (kin S r34 = some (0, 4)) <| some (.inr (gi v r34 1)) else if b1 = J 5 then grd (kin S a0 = some (0, 5)) <| (gr S a0 5).bind fun r39 => grd (kin S r39 = some (0, 4)) <| some (.inr (gi v r39 2)) else if b1 = J 6 then grd (kin S a0 = some (0, 5)) <| (gr S a0 5).bind fun r44 => grd (kin S r44 = some (0, 4)) <| some (.inr (gi v r44 3)) else some (.inl 0))
theorem ok_gc_setting (a0 : Nat) (b1 : Int32) (S : shp) (v : vl) : SimK B_gc_setting 0 (entB (bN B_gc_setting) [.ref a0, .int b1]) [] S v (F_gc_setting a0 b1 S v) (ρxi S v) := by
  show SimK B_gc_setting 0 [some (.ref a0), some (.int b1)] [] S v (F_gc_setting a0 b1 S v) _
  unfold F_gc_setting
  refine sim_seg [(.iload_n 1, 0, 0, 0)] [] (q := 1) (L' := [some (.ref a0), some (.int b1)]) (st' := [.int b1]) (v1 := v) (by decide +kernel) rfl trivial ?_
  refine sim_case (df := 111) (lw := 0) (hg := 6) (offs := #[43, 54, 65, 76, 87, 95, 103]) (len := 43) (z := 0) (o := 43) (tg := 44) (by decide +kernel) rfl rfl (by decide) (fun _ => ?_) (fun h8 => ?_)
  · refine sim_grd fun h1 => ?_
    refine sim_bind fun r2 h3 => ?_
    refine sim_grd fun h4 => ?_
    refine sim_bind fun r5 h6 => ?_
    refine sim_grd fun h7 => ?_
    refine sim_seg [(.aload_n 0, 0, 0, 0), (.getfield 26, 5, 5, 0), (.getfield 87, 4, 6, 0), (.getfield 112, 0, 0, 0)] [r2, r5] (q := 54) (L' := [some (.ref a0), some (.int b1)]) (st' := [.int (gi v r5 0)]) (v1 := v) (by decide +kernel) rfl ⟨⟨h1, h3⟩, ⟨h4, h6⟩, h7, trivial⟩ ?_
    exact sim_iret (by decide +kernel) rfl rfl rfl
  refine sim_case (df := 111) (lw := 0) (hg := 6) (offs := #[43, 54, 65, 76, 87, 95, 103]) (len := 43) (z := 1) (o := 54) (tg := 55) (by decide +kernel) rfl rfl (by decide) (fun _ => ?_) (fun h16 => ?_)
  · refine sim_grd fun h9 => ?_
    refine sim_bind fun r10 h11 => ?_
    refine sim_grd fun h12 => ?_
    refine sim_bind fun r13 h14 => ?_
    refine sim_grd fun h15 => ?_
    refine sim_seg [(.aload_n 0, 0, 0, 0), (.getfield 26, 5, 5, 0), (.getfield 87, 4, 6, 0), (.getfield 115, 0, 1, 0)] [r10, r13] (q := 65) (L' := [some (.ref a0), some (.int b1)]) (st' := [.int (gi v r13 1)]) (v1 := v) (by decide +kernel) rfl ⟨⟨h9, h11⟩, ⟨h12, h14⟩, h15, trivial⟩ ?_
    exact sim_iret (by decide +kernel) rfl rfl rfl
  refine sim_case (df := 111) (lw := 0) (hg := 6) (offs := #[43, 54, 65, 76, 87, 95, 103]) (len := 43) (z := 2) (o := 65) (tg := 66) (by decide +kernel) rfl rfl (by decide) (fun _ => ?_) (fun h24 => ?_)
  · refine sim_grd fun h17 => ?_
    refine sim_bind fun r18 h19 => ?_
    refine sim_grd fun h20 => ?_
    refine sim_bind fun r21 h22 => ?_
    refine sim_grd fun h23 => ?_
    refine sim_seg [(.aload_n 0, 0, 0, 0), (.getfield 26, 5, 5, 0), (.getfield 87, 4, 6, 0), (.getfield 118, 0, 2, 0)] [r18, r21] (q := 76) (L' := [some (.ref a0), some (.int b1)]) (st' := [.int (gi v r21 2)]) (v1 := v) (by decide +kernel) rfl ⟨⟨h17, h19⟩, ⟨h20, h22⟩, h23, trivial⟩ ?_
    exact sim_iret (by decide +kernel) rfl rfl rfl
  refine sim_case (df := 111) (lw := 0) (hg := 6) (offs := #[43, 54, 65, 76, 87, 95, 103]) (len := 43) (z := 3) (o := 76) (tg := 77) (by decide +kernel) rfl rfl (by decide) (fun _ => ?_) (fun h32 => ?_)
  · refine sim_grd fun h25 => ?_
    refine sim_bind fun r26 h27 => ?_
    refine sim_grd fun h28 => ?_
    refine sim_bind fun r29 h30 => ?_
    refine sim_grd fun h31 => ?_
    refine sim_seg [(.aload_n 0, 0, 0, 0), (.getfield 26, 5, 5, 0), (.getfield 69, 4, 7, 0), (.getfield 121, 3, 4, 0)] [r26, r29] (q := 87) (L' := [some (.ref a0), some (.int b1)]) (st' := [.int (gi v r29 4)]) (v1 := v) (by decide +kernel) rfl ⟨⟨h25, h27⟩, ⟨h28, h30⟩, h31, trivial⟩ ?_
    exact sim_iret (by decide +kernel) rfl rfl rfl
  refine sim_case (df := 111) (lw := 0) (hg := 6) (offs := #[43, 54, 65, 76, 87, 95, 103]) (len := 43) (z := 4) (o := 87) (tg := 88) (by decide +kernel) rfl rfl (by decide) (fun _ => ?_) (fun h37 => ?_)
  · refine sim_grd fun h33 => ?_
    refine sim_bind fun r34 h35 => ?_
    refine sim_grd fun h36 => ?_
    refine sim_seg [(.aload_n 0, 0, 0, 0), (.getfield 26, 5, 5, 0), (.getfield 124, 4, 1, 0)] [r34] (q := 95) (L' := [some (.ref a0), some (.int b1)]) (st' := [.int (gi v r34 1)]) (v1 := v) (by decide +kernel) rfl ⟨⟨h33, h35⟩, h36, trivial⟩ ?_
    exact sim_iret (by decide +kernel) rfl rfl rfl
  refine sim_case (df := 111) (lw := 0) (hg := 6) (offs := #[43, 54, 65, 76, 87, 95, 103]) (len := 43) (z := 5) (o := 95) (tg := 96) (by decide +kernel) rfl rfl (by decide) (fun _ => ?_) (fun h42 => ?_)
  · refine sim_grd fun h38 => ?_
    refine sim_bind fun r39 h40 => ?_
    refine sim_grd fun h41 => ?_
    refine sim_seg [(.aload_n 0, 0, 0, 0), (.getfield 26, 5, 5, 0), (.getfield 127, 4, 2, 0)] [r39] (q := 103) (L' := [some (.ref a0), some (.int b1)]) (st' := [.int (gi v r39 2)]) (v1 := v) (by decide +kernel) rfl ⟨⟨h38, h40⟩, h41, trivial⟩ ?_
    exact sim_iret (by decide +kernel) rfl rfl rfl
  refine sim_case (df := 111) (lw := 0) (hg := 6) (offs := #[43, 54, 65, 76, 87, 95, 103]) (len := 43) (z := 6) (o := 103) (tg := 104) (by decide +kernel) rfl rfl (by decide) (fun _ => ?_) (fun h47 => ?_)
  · refine sim_grd fun h43 => ?_
    refine sim_bind fun r44 h45 => ?_
    refine sim_grd fun h46 => ?_
    refine sim_seg [(.aload_n 0, 0, 0, 0), (.getfield 26, 5, 5, 0), (.getfield 130, 4, 3, 0)] [r44] (q := 111) (L' := [some (.ref a0), some (.int b1)]) (st' := [.int (gi v r44 3)]) (v1 := v) (by decide +kernel) rfl ⟨⟨h43, h45⟩, h46, trivial⟩ ?_
    exact sim_iret (by decide +kernel) rfl rfl rfl
  refine sim_tdef (df := 111) (lw := 0) (hg := 6) (offs := #[43, 54, 65, 76, 87, 95, 103]) (len := 43) (tg := 112) (by decide +kernel) rfl (by have eh8 := ne_J h8 (by decide) (by decide); have eh16 := ne_J h16 (by decide) (by decide); have eh24 := ne_J h24 (by decide) (by decide); have eh32 := ne_J h32 (by decide) (by decide); have eh37 := ne_J h37 (by decide) (by decide); have eh42 := ne_J h42 (by decide) (by decide); have eh47 := ne_J h47 (by decide) (by decide); omega) ?_
  exact sim_throw thr0 rfl rfl (by decide) (by decide +kernel) (by decide +kernel) (by decide +kernel) (by decide +kernel) (Nat.le_of_ble_eq_true rfl) rfl
def B_as_newLength : bd := (⟨"jdk/internal/util/ArraysSupport", "newLength", "(III)I"⟩, prog_35_method_27_code, 4, (some .int), [], 17, 1)
theorem m_as_newLength : mS B_as_newLength 3 := ⟨⟨⟨by decide +kernel, Or.inl rfl⟩, rfl, (List.mem_of_getElem? (i := 931) (by decide +kernel)), by decide +kernel, (List.mem_of_getElem? (i := 118) (by decide +kernel)), ⟨by decide, by decide⟩, by decide⟩, rfl, (by unfold nar; decide +kernel), (List.mem_of_getElem? (i := 930) (by decide +kernel))⟩
noncomputable def F_as_newLength (b0 : Int32) (b1 : Int32) (b2 : Int32) (S : shp) (v : vl) : Option Int32 :=
  (F_ma_max b1 b2 S v).bind fun x1 => (if (J 0) < (b0 + x1) then (if (J 2147483639) < (b0 + x1) then none else some ((b0 + x1))) else none)
theorem ok_as_newLength (b0 : Int32) (b1 : Int32) (b2 : Int32) (S : shp) (v : vl) : SimK B_as_newLength 0 (entB (bN B_as_newLength) [.int b0, .int b1, .int b2]) [] S v (F_as_newLength b0 b1 b2 S v) (ρri S v) := by
  show SimK B_as_newLength 0 [some (.int b0), some (.int b1), some (.int b2), none] [] S v (F_as_newLength b0 b1 b2 S v) _
  unfold F_as_newLength
  refine sim_seg [(.iload_n 0, 0, 0, 0), (.iload_n 1, 0, 0, 0), (.iload_n 2, 0, 0, 0)] [] (q := 3) (L' := [some (.int b0), some (.int b1), some (.int b2), none]) (st' := [.int b2, .int b1, .int b0]) (v1 := v) (by decide +kernel) rfl trivial ?_
  refine sc_ri (pc3 := 6) (cf_S (idx := 194) [.int b1, .int b2] m_ma_max ⟨by decide, by decide⟩ (List.mem_of_getElem? (i := 932) (by decide +kernel)) rfl (Nat.le_of_ble_eq_true rfl) (by decide +kernel) (Nat.le_of_ble_eq_true rfl) rfl) (ok_ma_max b1 b2 S v) rfl (fun x1 => ?_)
  refine sim_seg [(.iadd, 0, 0, 0), (.istore_n 3, 0, 0, 0)] [] (q := 8) (L' := [some (.int b0), some (.int b1), some (.int b2), some (.int (b0 + x1))]) (st' := []) (v1 := v) (by decide +kernel) rfl trivial ?_
  refine sim_seg [(.iconst 0, 0, 0, 0), (.iload_n 3, 0, 0, 0)] [] (q := 10) (L' := [some (.int b0), some (.int b1), some (.int b2), some (.int (b0 + x1))]) (st' := [.int (b0 + x1), .int (J 0)]) (v1 := v) (by decide +kernel) rfl trivial ?_
  refine sim_ge (o := 11) (tg := 21) (f := 13) (by decide +kernel) rfl rfl (fun _ => ?_) (fun _ => ?_)
  · refine sim_seg [(.iload_n 3, 0, 0, 0), (.ldc 200, 0, 0, 2147483639)] [] (q := 16) (L' := [some (.int b0), some (.int b1), some (.int b2), some (.int (b0 + x1))]) (st' := [.int (J 2147483639), .int (b0 + x1)]) (v1 := v) (by decide +kernel) rfl trivial ?_
    refine sim_gt (o := 5) (tg := 21) (f := 19) (by decide +kernel) rfl rfl (fun _ => ?_) (fun _ => ?_)
    · exact sim_none
    · refine sim_seg [(.iload_n 3, 0, 0, 0)] [] (q := 20) (L' := [some (.int b0), some (.int b1), some (.int b2), some (.int (b0 + x1))]) (st' := [.int (b0 + x1)]) (v1 := v) (by decide +kernel) rfl trivial ?_
      exact sim_iret (by decide +kernel) rfl rfl rfl
  · exact sim_none
def B_ab_newCapacity : bd := (⟨"java/lang/AbstractStringBuilder", "newCapacity", "(I)I"⟩, prog_10_method_10_code, 6, (some .int), [], 8, 2)
theorem m_ab_newCapacity : mU B_ab_newCapacity 1 := ⟨⟨⟨by decide +kernel, Or.inl rfl⟩, rfl, (List.mem_of_getElem? (i := 928) (by decide +kernel)), by decide +kernel, (List.mem_of_getElem? (i := 100) (by decide +kernel)), ⟨by decide, by decide⟩, by decide⟩, rfl, (by unfold nar; decide +kernel), (List.mem_of_getElem? (i := 927) (by decide +kernel)), (List.mem_of_getElem? (i := 1) (by decide +kernel)), (List.mem_of_getElem? (i := 2237) (by decide +kernel))⟩
theorem m_ab_newCapacityP : mP B_ab_newCapacity 1 := ⟨⟨⟨by decide +kernel, Or.inl rfl⟩, rfl, (List.mem_of_getElem? (i := 928) (by decide +kernel)), by decide +kernel, (List.mem_of_getElem? (i := 100) (by decide +kernel)), ⟨by decide, by decide⟩, by decide⟩, rfl, (by unfold nar; decide +kernel), (List.mem_of_getElem? (i := 927) (by decide +kernel)), (List.mem_of_getElem? (i := 2237) (by decide +kernel)), (List.mem_of_getElem? (i := 373) (by decide +kernel)), by decide⟩
noncomputable def F_ab_newCapacity (a0 : Nat) (b1 : Int32) (S : shp) (v : vl) : Option Int32 :=
  grd (kin S a0 = some (0, 7)) <| (gr S a0 0).bind fun r2 => grd (isArr (kin S r2)) <| lt ((b1 <<< ((gi v a0 1) &&& 31)) - (nI (alen S r2))) fun x5 => (F_as_newLength (nI (alen S r2)) x5 ((nI (alen S r2)) + ((J 2) <<< ((gi v a0 1) &&& 31))) S v).bind fun x6 => (if x6 = (J 2147483647) then none else some ((x6 >>> ((gi v a0 1) &&& 31))))
theorem ok_ab_newCapacity (a0 : Nat) (b1 : Int32) (S : shp) (v : vl) : SimK B_ab_newCapacity 0 (entB (bN B_ab_newCapacity) [.ref a0, .int b1]) [] S v (F_ab_newCapacity a0 b1 S v) (ρri S v) := by
  show SimK B_ab_newCapacity 0 [some (.ref a0), some (.int b1), none, none, none, none] [] S v (F_ab_newCapacity a0 b1 S v) _
  unfold F_ab_newCapacity
  refine sim_grd fun h1 => ?_
  refine sim_bind fun r2 h3 => ?_
  refine sim_grd fun h4 => ?_
  refine sim_seg [(.aload_n 0, 0, 0, 0), (.getfield 15, 7, 0, 0), (.arraylength, 0, 0, 0), (.istore_n 2, 0, 0, 0)] [r2] (q := 6) (L' := [some (.ref a0), some (.int b1), some (.int (nI (alen S r2))), none, none, none]) (st' := []) (v1 := v) (by decide +kernel) rfl ⟨⟨h1, h3⟩, h4, trivial⟩ ?_
  refine sim_seg [(.iload_n 1, 0, 0, 0), (.aload_n 0, 0, 0, 0), (.getfield 22, 7, 1, 0), (.ishl, 0, 0, 0), (.istore_n 3, 0, 0, 0)] [] (q := 13) (L' := [some (.ref a0), some (.int b1), some (.int (nI (alen S r2))), some (.int (b1 <<< ((gi v a0 1) &&& 31))), none, none]) (st' := []) (v1 := v) (by decide +kernel) rfl ⟨h1, trivial⟩ ?_
  refine sim_seg [(.iload_n 3, 0, 0, 0), (.iload_n 2, 0, 0, 0), (.isub, 0, 0, 0), (.istore 4, 0, 0, 0)] [] (q := 18) (L' := [some (.ref a0), some (.int b1), some (.int (nI (alen S r2))), some (.int (b1 <<< ((gi v a0 1) &&& 31))), some (.int ((b1 <<< ((gi v a0 1) &&& 31)) - (nI (alen S r2)))), none]) (st' := []) (v1 := v) (by decide +kernel) rfl trivial ?_
  refine sim_nm ((b1 <<< ((gi v a0 1) &&& 31)) - (nI (alen S r2))) (fun x5 => [some (.ref a0), some (.int b1), some (.int (nI (alen S r2))), some (.int (b1 <<< ((gi v a0 1) &&& 31))), some (.int x5), none]) (fun x5 => []) (fun x5 => ?_) rfl rfl
  refine sim_seg [(.iload_n 2, 0, 0, 0), (.iload 4, 0, 0, 0), (.iload_n 2, 0, 0, 0), (.iconst 2, 0, 0, 2), (.aload_n 0, 0, 0, 0), (.getfield 22, 7, 1, 0), (.ishl, 0, 0, 0), (.iadd, 0, 0, 0)] [] (q := 29) (L' := [some (.ref a0), some (.int b1), some (.int (nI (alen S r2))), some (.int (b1 <<< ((gi v a0 1) &&& 31))), some (.int x5), none]) (st' := [.int ((nI (alen S r2)) + ((J 2) <<< ((gi v a0 1) &&& 31))), .int x5, .int (nI (alen S r2))]) (v1 := v) (by decide +kernel) rfl ⟨h1, trivial⟩ ?_
  refine sc_ri (pc3 := 32) (cf_S (idx := 114) [.int (nI (alen S r2)), .int x5, .int ((nI (alen S r2)) + ((J 2) <<< ((gi v a0 1) &&& 31)))] m_as_newLength ⟨by decide, by decide⟩ (List.mem_of_getElem? (i := 929) (by decide +kernel)) rfl (Nat.le_of_ble_eq_true rfl) (by decide +kernel) (Nat.le_of_ble_eq_true rfl) rfl) (ok_as_newLength (nI (alen S r2)) x5 ((nI (alen S r2)) + ((J 2) <<< ((gi v a0 1) &&& 31))) S v) rfl (fun x6 => ?_)
  refine sim_seg [(.istore 5, 0, 0, 0)] [] (q := 34) (L' := [some (.ref a0), some (.int b1), some (.int (nI (alen S r2))), some (.int (b1 <<< ((gi v a0 1) &&& 31))), some (.int x5), some (.int x6)]) (st' := []) (v1 := v) (by decide +kernel) rfl trivial ?_
  refine sim_seg [(.iload 5, 0, 0, 0), (.ldc 39, 0, 0, 2147483647)] [] (q := 38) (L' := [some (.ref a0), some (.int b1), some (.int (nI (alen S r2))), some (.int (b1 <<< ((gi v a0 1) &&& 31))), some (.int x5), some (.int x6)]) (st' := [.int (J 2147483647), .int x6]) (v1 := v) (by decide +kernel) rfl trivial ?_
  refine sim_ne (o := 13) (tg := 51) (f := 41) (by decide +kernel) rfl rfl (fun _ => ?_) (fun _ => ?_)
  · exact sim_none
  · refine sim_seg [(.iload 5, 0, 0, 0), (.aload_n 0, 0, 0, 0), (.getfield 22, 7, 1, 0), (.ishr, 0, 0, 0)] [] (q := 58) (L' := [some (.ref a0), some (.int b1), some (.int (nI (alen S r2))), some (.int (b1 <<< ((gi v a0 1) &&& 31))), some (.int x5), some (.int x6)]) (st' := [.int (x6 >>> ((gi v a0 1) &&& 31))]) (v1 := v) (by decide +kernel) rfl ⟨h1, trivial⟩ ?_
    exact sim_iret (by decide +kernel) rfl rfl rfl
def B_ar_copyOf : bd := (⟨"java/util/Arrays", "copyOf", "([BI)[B"⟩, prog_33_method_121_code, 3, (some (.array .byte)), [], 13, 2)
theorem m_ar_copyOf : mS B_ar_copyOf 2 := ⟨⟨⟨by decide +kernel, Or.inl rfl⟩, rfl, (List.mem_of_getElem? (i := 940) (by decide +kernel)), by decide +kernel, (List.mem_of_getElem? (i := 119) (by decide +kernel)), ⟨by decide, by decide⟩, by decide⟩, rfl, (by unfold nar; decide +kernel), (List.mem_of_getElem? (i := 939) (by decide +kernel))⟩
noncomputable def F_ar_copyOf (a0 : Nat) (b1 : Int32) (S : shp) (v : vl) : Option ((Option Nat) × shp × vl) :=
  grd (isArr (kin S a0)) <| (if b1 = (nI (alen S a0)) then none else grd (¬ b1 < 0) <| grd ((Int32.toNatClampNeg b1) ≤ 65536) <| grd (kin S (nxt S) = none) <| lt3 (grow S (2, (Int32.toNatClampNeg b1)) (Int32.toNatClampNeg b1)) (nxt S) (zero v (nxt S)) fun S5 r6 v7 => grd (isArr (kin S5 a0)) <| (F_ma_min (nI (alen S5 a0)) b1 S5 v7).bind fun x11 => grd (kin S5 a0 = some (2, alen S5 a0)) <| grd ((¬ (J 0) < 0 ∧ ¬ (J 0) < 0 ∧ ¬ x11 < 0) ∧ (Int32.toNatClampNeg (J 0)) + (Int32.toNatClampNeg x11) ≤ alen S5 a0 ∧ (Int32.toNatClampNeg (J 0)) + (Int32.toNatClampNeg x11) ≤ alen S5 r6 ∧ ∀ i, i < (Int32.toNatClampNeg x11) → fits (aty 1) (.int (gi v7 a0 ((Int32.toNatClampNeg (J 0)) + i))) = true) <| lt (cpy v7 a0 (Int32.toNatClampNeg (J 0)) r6 (Int32.toNatClampNeg (J 0)) (Int32.toNatClampNeg x11)) fun w14 => some (((some r6), S5, w14)))
theorem ok_ar_copyOf (a0 : Nat) (b1 : Int32) (S : shp) (v : vl) : SimK B_ar_copyOf 0 (entB (bN B_ar_copyOf) [.ref a0, .int b1]) [] S v (F_ar_copyOf a0 b1 S v) (ρgq) := by
  show SimK B_ar_copyOf 0 [some (.ref a0), some (.int b1), none] [] S v (F_ar_copyOf a0 b1 S v) _
  unfold F_ar_copyOf
  refine sim_grd fun h1 => ?_
  refine sim_seg [(.iload_n 1, 0, 0, 0), (.aload_n 0, 0, 0, 0), (.arraylength, 0, 0, 0)] [] (q := 3) (L' := [some (.ref a0), some (.int b1), none]) (st' := [.int (nI (alen S a0)), .int b1]) (v1 := v) (by decide +kernel) rfl ⟨h1, trivial⟩ ?_
  refine sim_ne (o := 11) (tg := 14) (f := 6) (by decide +kernel) rfl rfl (fun _ => ?_) (fun _ => ?_)
  · exact sim_none
  · refine sim_seg [(.iload_n 1, 0, 0, 0)] [] (q := 15) (L' := [some (.ref a0), some (.int b1), none]) (st' := [.int b1]) (v1 := v) (by decide +kernel) rfl trivial ?_
    refine sim_grd fun h2 => ?_
    refine sim_grd fun h3 => ?_
    refine sim_grd fun h4 => ?_
    refine sim_newa (ty := 1) (N := (Int32.toNatClampNeg b1)) (pc3 := 17) (by decide) (by decide +kernel) rfl h2 rfl h3 h4 (fun S5 r6 v7 h8 h9 => ?_)
    refine sim_seg [(.astore_n 2, 0, 0, 0)] [] (q := 18) (L' := [some (.ref a0), some (.int b1), some (.ref r6)]) (st' := []) (v1 := v7) (by decide +kernel) rfl trivial ?_
    refine sim_grd fun h10 => ?_
    refine sim_seg [(.aload_n 0, 0, 0, 0), (.iconst 0, 0, 0, 0), (.aload_n 2, 0, 0, 0), (.iconst 0, 0, 0, 0), (.aload_n 0, 0, 0, 0), (.arraylength, 0, 0, 0), (.iload_n 1, 0, 0, 0)] [] (q := 25) (L' := [some (.ref a0), some (.int b1), some (.ref r6)]) (st' := [.int b1, .int (nI (alen S5 a0)), .int (J 0), .ref r6, .int (J 0), .ref a0]) (v1 := v7) (by decide +kernel) rfl ⟨h10, trivial⟩ ?_
    refine sc_ri (pc3 := 28) (cf_S (idx := 304) [.int (nI (alen S5 a0)), .int b1] m_ma_min ⟨by decide, by decide⟩ (List.mem_of_getElem? (i := 948) (by decide +kernel)) rfl (Nat.le_of_ble_eq_true rfl) (by decide +kernel) (Nat.le_of_ble_eq_true rfl) rfl) (ok_ma_min (nI (alen S5 a0)) b1 S5 v7) rfl (fun x11 => ?_)
    refine sim_grd fun h12 => ?_
    refine sim_grd fun h13 => ?_
    refine sim_copy (idx := 150) (ty := 1) (pc3 := 31) (by decide) (by decide +kernel) (List.mem_of_getElem? (i := 949) (by decide +kernel)) h12 (kin_alen h9) h13 (by decide) (Nat.le_of_ble_eq_true rfl) rfl (fun w14 => ?_)
    refine sim_seg [(.aload_n 2, 0, 0, 0)] [] (q := 32) (L' := [some (.ref a0), some (.int b1), some (.ref r6)]) (st' := [.ref r6]) (v1 := w14) (by decide +kernel) rfl trivial ?_
    exact sim_aretS (by decide +kernel) rfl (Or.inr ⟨_, rfl⟩) rfl
def B_ab_ensureCapacityInternal : bd := (⟨"java/lang/AbstractStringBuilder", "ensureCapacityInternal", "(I)V"⟩, prog_10_method_9_code, 3, none, [], 8, 3)
theorem m_ab_ensureCapacityInternal : mU B_ab_ensureCapacityInternal 1 := ⟨⟨⟨by decide +kernel, Or.inl rfl⟩, rfl, (List.mem_of_getElem? (i := 924) (by decide +kernel)), by decide +kernel, (List.mem_of_getElem? (i := 100) (by decide +kernel)), ⟨by decide, by decide⟩, by decide⟩, rfl, (by unfold nar; decide +kernel), (List.mem_of_getElem? (i := 923) (by decide +kernel)), (List.mem_of_getElem? (i := 0) (by decide +kernel)), (List.mem_of_getElem? (i := 2236) (by decide +kernel))⟩
theorem m_ab_ensureCapacityInternalP : mP B_ab_ensureCapacityInternal 1 := ⟨⟨⟨by decide +kernel, Or.inl rfl⟩, rfl, (List.mem_of_getElem? (i := 924) (by decide +kernel)), by decide +kernel, (List.mem_of_getElem? (i := 100) (by decide +kernel)), ⟨by decide, by decide⟩, by decide⟩, rfl, (by unfold nar; decide +kernel), (List.mem_of_getElem? (i := 923) (by decide +kernel)), (List.mem_of_getElem? (i := 2236) (by decide +kernel)), (List.mem_of_getElem? (i := 373) (by decide +kernel)), by decide⟩
noncomputable def F_ab_ensureCapacityInternal (a0 : Nat) (b1 : Int32) (S : shp) (v : vl) : Option (shp × vl) :=
  grd (kin S a0 = some (0, 7)) <| (gr S a0 0).bind fun r2 => grd (isArr (kin S r2)) <| lt ((nI (alen S r2)) >>> ((gi v a0 1) &&& 31)) fun x5 => (if (J 0) < (b1 - x5) then (F_ab_newCapacity a0 b1 S v).bind fun x6 => (F_ar_copyOf r2 (x6 <<< ((gi v a0 1) &&& 31)) S v).bind fun (q7, S8, w9) => oc2 q7 none fun r11 => lt (sr S8 a0 0 (some r11)) fun S12 => some ((S12, w9)) else some ((S, v)))
theorem ok_ab_ensureCapacityInternal (a0 : Nat) (b1 : Int32) (S : shp) (v : vl) : SimK B_ab_ensureCapacityInternal 0 (entB (bN B_ab_ensureCapacityInternal) [.ref a0, .int b1]) [] S v (F_ab_ensureCapacityInternal a0 b1 S v) (ρgv) := by
  show SimK B_ab_ensureCapacityInternal 0 [some (.ref a0), some (.int b1), none] [] S v (F_ab_ensureCapacityInternal a0 b1 S v) _
  unfold F_ab_ensureCapacityInternal
  refine sim_grd fun h1 => ?_
  refine sim_bind fun r2 h3 => ?_
  refine sim_grd fun h4 => ?_
  refine sim_seg [(.aload_n 0, 0, 0, 0), (.getfield 15, 7, 0, 0), (.arraylength, 0, 0, 0), (.aload_n 0, 0, 0, 0), (.getfield 22, 7, 1, 0), (.ishr, 0, 0, 0), (.istore_n 2, 0, 0, 0)] [r2] (q := 11) (L' := [some (.ref a0), some (.int b1), some (.int ((nI (alen S r2)) >>> ((gi v a0 1) &&& 31)))]) (st' := []) (v1 := v) (by decide +kernel) rfl ⟨⟨h1, h3⟩, h4, h1, trivial⟩ ?_
  refine sim_nm ((nI (alen S r2)) >>> ((gi v a0 1) &&& 31)) (fun x5 => [some (.ref a0), some (.int b1), some (.int x5)]) (fun x5 => []) (fun x5 => ?_) rfl rfl
  refine sim_seg [(.iload_n 1, 0, 0, 0), (.iload_n 2, 0, 0, 0), (.isub, 0, 0, 0)] [] (q := 14) (L' := [some (.ref a0), some (.int b1), some (.int x5)]) (st' := [.int (b1 - x5)]) (v1 := v) (by decide +kernel) rfl trivial ?_
  refine sim_le0 (o := 24) (tg := 38) (f := 17) (by decide +kernel) rfl rfl (fun _ => ?_) (fun _ => ?_)
  · refine sim_seg [(.aload_n 0, 0, 0, 0), (.aload_n 0, 0, 0, 0), (.getfield 15, 7, 0, 0), (.aload_n 0, 0, 0, 0), (.iload_n 1, 0, 0, 0)] [r2] (q := 24) (L' := [some (.ref a0), some (.int b1), some (.int x5)]) (st' := [.int b1, .ref a0, .ref r2, .ref a0]) (v1 := v) (by decide +kernel) rfl ⟨⟨h1, h3⟩, trivial⟩ ?_
    refine sc_ri (pc3 := 27) (cf_U (idx := 104) [.int b1] m_ab_newCapacity ⟨by decide, by decide⟩ (List.mem_of_getElem? (i := 925) (by decide +kernel)) rfl (Nat.le_of_ble_eq_true rfl) h1 (by decide +kernel) (Nat.le_of_ble_eq_true rfl) rfl) (ok_ab_newCapacity a0 b1 S v) rfl (fun x6 => ?_)
    refine sim_seg [(.aload_n 0, 0, 0, 0), (.getfield 22, 7, 1, 0), (.ishl, 0, 0, 0)] [] (q := 32) (L' := [some (.ref a0), some (.int b1), some (.int x5)]) (st' := [.int (x6 <<< ((gi v a0 1) &&& 31)), .ref r2, .ref a0]) (v1 := v) (by decide +kernel) rfl ⟨h1, trivial⟩ ?_
    refine sc_gq (pc3 := 35) (cf_S (idx := 108) [.ref r2, .int (x6 <<< ((gi v a0 1) &&& 31))] m_ar_copyOf ⟨by decide, by decide⟩ (List.mem_of_getElem? (i := 938) (by decide +kernel)) rfl (Nat.le_of_ble_eq_true rfl) (by decide +kernel) (Nat.le_of_ble_eq_true rfl) rfl) (ok_ar_copyOf r2 (x6 <<< ((gi v a0 1) &&& 31)) S v) rfl (fun q7 S8 w9 h10 => ?_)
    refine sim_oc2 (fun _ => sim_none) (fun r11 _ => ?_)
    refine sim_putr (idx := 15) (ci := 7) (m := 0) (pc3 := 38) (by decide +kernel) (by decide) (Or.inl rfl) (h10.2.2.2.2 _ _ h1) rfl rfl (fun S12 h13 => ?_)
    exact sim_vret (by decide +kernel) rfl rfl
  · exact sim_vret (by decide +kernel) rfl rfl
def B_ab_isLatin1 : bd := (⟨"java/lang/AbstractStringBuilder", "isLatin1", "()Z"⟩, prog_10_method_68_code, 1, (some .boolean), [], 8, 0)
theorem m_ab_isLatin1 : mU B_ab_isLatin1 0 := ⟨⟨⟨by decide +kernel, Or.inl rfl⟩, rfl, (List.mem_of_getElem? (i := 954) (by decide +kernel)), by decide +kernel, (List.mem_of_getElem? (i := 100) (by decide +kernel)), ⟨by decide, by decide⟩, by decide⟩, rfl, (by unfold nar; decide +kernel), (List.mem_of_getElem? (i := 951) (by decide +kernel)), (List.mem_of_getElem? (i := 953) (by decide +kernel)), (List.mem_of_getElem? (i := 952) (by decide +kernel))⟩
theorem m_ab_isLatin1P : mP B_ab_isLatin1 0 := ⟨⟨⟨by decide +kernel, Or.inl rfl⟩, rfl, (List.mem_of_getElem? (i := 954) (by decide +kernel)), by decide +kernel, (List.mem_of_getElem? (i := 100) (by decide +kernel)), ⟨by decide, by decide⟩, by decide⟩, rfl, (by unfold nar; decide +kernel), (List.mem_of_getElem? (i := 951) (by decide +kernel)), (List.mem_of_getElem? (i := 952) (by decide +kernel)), (List.mem_of_getElem? (i := 373) (by decide +kernel)), by decide⟩
noncomputable def F_ab_isLatin1 (a0 : Nat) (S : shp) (v : vl) : Option Int32 :=
  grd (kin S a0 = some (0, 7)) <| (if (gi v a0 1) = (J 0) then some ((J 1)) else some ((J 0)))
theorem ok_ab_isLatin1 (a0 : Nat) (S : shp) (v : vl) : SimK B_ab_isLatin1 0 (entB (bN B_ab_isLatin1) [.ref a0]) [] S v (F_ab_isLatin1 a0 S v) (ρri S v) := by
  show SimK B_ab_isLatin1 0 [some (.ref a0)] [] S v (F_ab_isLatin1 a0 S v) _
  unfold F_ab_isLatin1
  refine sim_gets (idx := 18) (m := 1) (pc3 := 3) (by decide) (by decide +kernel) (show Cond.fieldLink (owns (bO B_ab_isLatin1)) 18 "java/lang/String" "COMPACT_STRINGS" "Z" ∈ tb2 from (List.mem_of_getElem? (i := 351) (by decide +kernel))) rfl ?_
  show SimK _ _ _ ([.int (J 1)]) _ _ _ _
  refine sim_ifF (c := (J 1) = (J 0)) (by decide) (sim_eq0 (o := 14) (tg := 17) (f := 6) (by decide +kernel) rfl rfl (fun _ => sim_none) (fun _ => ?_))
  refine sim_grd fun h1 => ?_
  refine sim_seg [(.aload_n 0, 0, 0, 0), (.getfield 22, 7, 1, 0)] [] (q := 10) (L' := [some (.ref a0)]) (st' := [.int (gi v a0 1)]) (v1 := v) (by decide +kernel) rfl ⟨h1, trivial⟩ ?_
  refine sim_ne0 (o := 7) (tg := 17) (f := 13) (by decide +kernel) rfl rfl (fun _ => ?_) (fun _ => ?_)
  · refine sim_seg [(.iconst 1, 0, 0, 1), (.goto 4, 0, 0, 0)] [] (q := 18) (L' := [some (.ref a0)]) (st' := [.int (J 1)]) (v1 := v) (by decide +kernel) rfl trivial ?_
    exact sim_iret (by decide +kernel) rfl (by decide) rfl
  · refine sim_seg [(.iconst 0, 0, 0, 0)] [] (q := 18) (L' := [some (.ref a0)]) (st' := [.int (J 0)]) (v1 := v) (by decide +kernel) rfl trivial ?_
    exact sim_iret (by decide +kernel) rfl (by decide) rfl
def B_l1_canEncode : bd := (⟨"java/lang/StringLatin1", "canEncode", "(C)Z"⟩, prog_27_method_3_code, 1, (some .boolean), [], 10, 0)
theorem m_l1_canEncode : mS B_l1_canEncode 1 := ⟨⟨⟨by decide +kernel, Or.inl rfl⟩, rfl, (List.mem_of_getElem? (i := 1221) (by decide +kernel)), by decide +kernel, (List.mem_of_getElem? (i := 105) (by decide +kernel)), ⟨by decide, by decide⟩, by decide⟩, rfl, (by unfold nar; decide +kernel), (List.mem_of_getElem? (i := 1220) (by decide +kernel))⟩
noncomputable def F_l1_canEncode (b0 : Int32) (S : shp) (v : vl) : Option Int32 :=
  (if (J 255) < b0 then some ((J 0)) else some ((J 1)))
theorem ok_l1_canEncode (b0 : Int32) (S : shp) (v : vl) : SimK B_l1_canEncode 0 (entB (bN B_l1_canEncode) [.int b0]) [] S v (F_l1_canEncode b0 S v) (ρri S v) := by
  show SimK B_l1_canEncode 0 [some (.int b0)] [] S v (F_l1_canEncode b0 S v) _
  unfold F_l1_canEncode
  refine sim_seg [(.iload_n 0, 0, 0, 0), (.sipush 255, 0, 0, 255)] [] (q := 4) (L' := [some (.int b0)]) (st' := [.int (J 255), .int b0]) (v1 := v) (by decide +kernel) rfl trivial ?_
  refine sim_gt (o := 7) (tg := 11) (f := 7) (by decide +kernel) rfl rfl (fun _ => ?_) (fun _ => ?_)
  · refine sim_seg [(.iconst 0, 0, 0, 0)] [] (q := 12) (L' := [some (.int b0)]) (st' := [.int (J 0)]) (v1 := v) (by decide +kernel) rfl trivial ?_
    exact sim_iret (by decide +kernel) rfl (by decide) rfl
  · refine sim_seg [(.iconst 1, 0, 0, 1), (.goto 4, 0, 0, 0)] [] (q := 12) (L' := [some (.int b0)]) (st' := [.int (J 1)]) (v1 := v) (by decide +kernel) rfl trivial ?_
    exact sim_iret (by decide +kernel) rfl (by decide) rfl
def B_ab_append : bd := (⟨"java/lang/AbstractStringBuilder", "append", "(C)Ljava/lang/AbstractStringBuilder;"⟩, prog_10_method_31_code, 2, (some (.object "java/lang/AbstractStringBuilder")), [], 8, 4)
theorem m_ab_appendP : mP B_ab_append 1 := ⟨⟨⟨by decide +kernel, Or.inl rfl⟩, rfl, (List.mem_of_getElem? (i := 1218) (by decide +kernel)), by decide +kernel, (List.mem_of_getElem? (i := 100) (by decide +kernel)), ⟨by decide, by decide⟩, by decide⟩, rfl, (by unfold nar; decide +kernel), (List.mem_of_getElem? (i := 1217) (by decide +kernel)), (List.mem_of_getElem? (i := 2243) (by decide +kernel)), (List.mem_of_getElem? (i := 373) (by decide +kernel)), by decide⟩
noncomputable def F_ab_append (a0 : Nat) (b1 : Int32) (S : shp) (v : vl) : Option ((Option Nat) × shp × vl) :=
  grd (kin S a0 = some (0, 7)) <| (F_ab_ensureCapacityInternal a0 ((gi v a0 3) + (J 1)) S v).bind fun (S2, w3) => (F_ab_isLatin1 a0 S2 w3).bind fun x5 => (if x5 = (J 0) then none else (F_l1_canEncode b1 S2 w3).bind fun x6 => (if x6 = (J 0) then none else (gr S2 a0 0).bind fun r7 => grd (kin S2 r7 = some (2, alen S2 r7)) <| grd (vp_in (gi w3 a0 3) (alen S2 r7)) <| lt (si (si w3 a0 3 ((gi w3 a0 3) + (J 1))) r7 (Int32.toNatClampNeg (gi w3 a0 3)) (Int8.toInt32 (Int32.toInt8 (Int8.toInt32 (Int32.toInt8 b1))))) fun w11 => some (((some a0), S2, w11))))
theorem ok_ab_append (a0 : Nat) (b1 : Int32) (S : shp) (v : vl) : SimK B_ab_append 0 (entB (bN B_ab_append) [.ref a0, .int b1]) [] S v (F_ab_append a0 b1 S v) (ρgq) := by
  show SimK B_ab_append 0 [some (.ref a0), some (.int b1)] [] S v (F_ab_append a0 b1 S v) _
  unfold F_ab_append
  refine sim_grd fun h1 => ?_
  refine sim_seg [(.aload_n 0, 0, 0, 0), (.aload_n 0, 0, 0, 0), (.getfield 79, 7, 3, 0), (.iconst 1, 0, 0, 1), (.iadd, 0, 0, 0)] [] (q := 7) (L' := [some (.ref a0), some (.int b1)]) (st' := [.int ((gi v a0 3) + (J 1)), .ref a0]) (v1 := v) (by decide +kernel) rfl ⟨h1, trivial⟩ ?_
  refine sc_gv (pc3 := 10) (cf_U (idx := 100) [.int ((gi v a0 3) + (J 1))] m_ab_ensureCapacityInternal ⟨by decide, by decide⟩ (List.mem_of_getElem? (i := 921) (by decide +kernel)) rfl (Nat.le_of_ble_eq_true rfl) h1 (by decide +kernel) (Nat.le_of_ble_eq_true rfl) rfl) (ok_ab_ensureCapacityInternal a0 ((gi v a0 3) + (J 1)) S v) rfl (fun S2 w3 h4 => ?_)
  refine sim_seg [(.aload_n 0, 0, 0, 0)] [] (q := 11) (L' := [some (.ref a0), some (.int b1)]) (st' := [.ref a0]) (v1 := w3) (by decide +kernel) rfl trivial ?_
  refine sc_ri (pc3 := 14) (cf_U (idx := 83) [] m_ab_isLatin1 ⟨by decide, by decide⟩ (List.mem_of_getElem? (i := 950) (by decide +kernel)) rfl (Nat.le_of_ble_eq_true rfl) (h4.2.2.2.2 _ _ h1) (by decide +kernel) (Nat.le_of_ble_eq_true rfl) rfl) (ok_ab_isLatin1 a0 S2 w3) rfl (fun x5 => ?_)
  refine sim_eq0 (o := 31) (tg := 45) (f := 17) (by decide +kernel) rfl rfl (fun _ => ?_) (fun _ => ?_)
  · exact sim_none
  · refine sim_seg [(.iload_n 1, 0, 0, 0)] [] (q := 18) (L' := [some (.ref a0), some (.int b1)]) (st' := [.int b1]) (v1 := w3) (by decide +kernel) rfl trivial ?_
    refine sc_ri (pc3 := 21) (cf_S (idx := 191) [.int b1] m_l1_canEncode ⟨by decide, by decide⟩ (List.mem_of_getElem? (i := 1219) (by decide +kernel)) rfl (Nat.le_of_ble_eq_true rfl) (by decide +kernel) (Nat.le_of_ble_eq_true rfl) rfl) (ok_l1_canEncode b1 S2 w3) rfl (fun x6 => ?_)
    refine sim_eq0 (o := 24) (tg := 45) (f := 24) (by decide +kernel) rfl rfl (fun _ => ?_) (fun _ => ?_)
    · exact sim_none
    · refine sim_bind fun r7 h8 => ?_
      refine sim_grd fun h9 => ?_
      refine sim_grd fun h10 => ?_
      refine sim_seg [(.aload_n 0, 0, 0, 0), (.getfield 15, 7, 0, 0), (.aload_n 0, 0, 0, 0), (.dup, 0, 0, 0), (.getfield 79, 7, 3, 0), (.dup_x1, 0, 0, 0), (.iconst 1, 0, 0, 1), (.iadd, 0, 0, 0), (.putfield 79, 7, 3, 0), (.iload_n 1, 0, 0, 0), (.i2b, 0, 0, 0), (.bastore, 0, 0, 0)] [r7] (q := 42) (L' := [some (.ref a0), some (.int b1)]) (st' := []) (v1 := (si (si w3 a0 3 ((gi w3 a0 3) + (J 1))) r7 (Int32.toNatClampNeg (gi w3 a0 3)) (Int8.toInt32 (Int32.toInt8 (Int8.toInt32 (Int32.toInt8 b1)))))) (by decide +kernel) rfl ⟨⟨(h4.2.2.2.2 _ _ h1), h8⟩, (h4.2.2.2.2 _ _ h1), (h4.2.2.2.2 _ _ h1), ⟨h9, h10⟩, trivial⟩ ?_
      refine sim_lt (x := (si (si w3 a0 3 ((gi w3 a0 3) + (J 1))) r7 (Int32.toNatClampNeg (gi w3 a0 3)) (Int8.toInt32 (Int32.toInt8 (Int8.toInt32 (Int32.toInt8 b1)))))) ?_
      generalize (si (si w3 a0 3 ((gi w3 a0 3) + (J 1))) r7 (Int32.toNatClampNeg (gi w3 a0 3)) (Int8.toInt32 (Int32.toInt8 (Int8.toInt32 (Int32.toInt8 b1))))) = w11
      refine sim_seg [(.goto 33, 0, 0, 0), (.aload_n 0, 0, 0, 0)] [] (q := 76) (L' := [some (.ref a0), some (.int b1)]) (st' := [.ref a0]) (v1 := w11) (by decide +kernel) rfl trivial ?_
      exact sim_aretS (by decide +kernel) rfl (Or.inl ⟨_, rfl⟩) rfl
def B_sb_append : bd := (⟨"java/lang/StringBuilder", "append", "(C)Ljava/lang/StringBuilder;"⟩, prog_25_method_14_code, 2, (some (.object "java/lang/StringBuilder")), [], 7, 5)
theorem m_sb_append : mV B_sb_append 7 1 := ⟨⟨⟨by decide +kernel, Or.inl rfl⟩, rfl, (List.mem_of_getElem? (i := 1215) (by decide +kernel)), by decide +kernel, (List.mem_of_getElem? (i := 101) (by decide +kernel)), ⟨by decide, by decide⟩, by decide⟩, rfl, (by unfold nar; decide +kernel), (List.mem_of_getElem? (i := 1213) (by decide +kernel)), rfl, (List.mem_of_getElem? (i := 1214) (by decide +kernel))⟩
noncomputable def F_sb_append (a0 : Nat) (b1 : Int32) (S : shp) (v : vl) : Option ((Option Nat) × shp × vl) :=
  grd (kin S a0 = some (0, 7)) <| (F_ab_append a0 b1 S v).bind fun (q2, S3, w4) => oc2 q2 none fun r6 => some (((some a0), S3, w4))
theorem ok_sb_append (a0 : Nat) (b1 : Int32) (S : shp) (v : vl) : SimK B_sb_append 0 (entB (bN B_sb_append) [.ref a0, .int b1]) [] S v (F_sb_append a0 b1 S v) (ρgq) := by
  show SimK B_sb_append 0 [some (.ref a0), some (.int b1)] [] S v (F_sb_append a0 b1 S v) _
  unfold F_sb_append
  refine sim_seg [(.aload_n 0, 0, 0, 0), (.iload_n 1, 0, 0, 0)] [] (q := 2) (L' := [some (.ref a0), some (.int b1)]) (st' := [.int b1, .ref a0]) (v1 := v) (by decide +kernel) rfl trivial ?_
  refine sim_grd fun h1 => ?_
  refine sc_gq (pc3 := 5) (cf_P (idx := 50) [.int b1] m_ab_appendP ⟨by decide, by decide⟩ rfl (List.mem_of_getElem? (i := 1216) (by decide +kernel)) rfl (Nat.le_of_ble_eq_true rfl) h1 (by decide +kernel) (Nat.le_of_ble_eq_true rfl) rfl) (ok_ab_append a0 b1 S v) rfl (fun q2 S3 w4 h5 => ?_)
  refine sim_oc2 (fun _ => sim_none) (fun r6 _ => ?_)
  refine sim_seg [(.pop, 0, 0, 0), (.aload_n 0, 0, 0, 0)] [] (q := 7) (L' := [some (.ref a0), some (.int b1)]) (st' := [.ref a0]) (v1 := w4) (by decide +kernel) rfl trivial ?_
  exact sim_aretS (by decide +kernel) rfl (Or.inl ⟨_, rfl⟩) rfl
def B_ji_getChars : bd := (⟨"java/lang/Integer", "getChars", "(II[B)I"⟩, prog_20_method_12_code, 7, (some .int), [], 14, 0)
theorem m_ji_getChars : mS B_ji_getChars 3 := ⟨⟨⟨by decide +kernel, Or.inl rfl⟩, rfl, (List.mem_of_getElem? (i := 1017) (by decide +kernel)), by decide +kernel, (List.mem_of_getElem? (i := 121) (by decide +kernel)), ⟨by decide, by decide⟩, by decide⟩, rfl, (by unfold nar; decide +kernel), (List.mem_of_getElem? (i := 1016) (by decide +kernel))⟩
noncomputable def Y_ji_getChars_22 (N : Nat)  (i22 : vl → Int32 → Nat → Int32 → Int32 → Option (Int32 × vl)) (S : shp) (v : vl) (p0 : Int32) (p2 : Nat) (p5 : Int32) (p6 : Int32) : Option (Int32 × vl) :=
  (if (J (-100)) < p0 then grd (kin S (kad S 2) = some (12, 100)) <| grd (vp_in (-p0) (alen S (kad S 2))) <| grd (kin S p2 = some (2, alen S p2)) <| grd (vp_in (p5 + (J (-1))) (alen S p2)) <| lt (si v p2 (Int32.toNatClampNeg (p5 + (J (-1)))) (Int8.toInt32 (Int32.toInt8 (gi v (kad S 2) (Int32.toNatClampNeg (-p0)))))) fun w5 => (if p0 < (J (-9)) then grd (kin S (kad S 1) = some (12, 100)) <| grd (vp_in (-p0) (alen S (kad S 1))) <| grd (vp_in ((p5 + (J (-1))) + (J (-1))) (alen S p2)) <| lt (si w5 p2 (Int32.toNatClampNeg ((p5 + (J (-1))) + (J (-1)))) (Int8.toInt32 (Int32.toInt8 (gi w5 (kad S 1) (Int32.toNatClampNeg (-p0)))))) fun w9 => (if p6 = (J 0) then some ((((p5 + (J (-1))) + (J (-1))), w9)) else lt (((p5 + (J (-1))) + (J (-1))) + (J (-1))) fun x10 => grd (vp_in x10 (alen S p2)) <| lt (si w9 p2 (Int32.toNatClampNeg x10) (Int8.toInt32 (Int32.toInt8 (J 45)))) fun w12 => some ((x10, w12))) else (if p6 = (J 0) then some (((p5 + (J (-1))), w5)) else grd (vp_in ((p5 + (J (-1))) + (J (-1))) (alen S p2)) <| lt (si w5 p2 (Int32.toNatClampNeg ((p5 + (J (-1))) + (J (-1)))) (Int8.toInt32 (Int32.toInt8 (J 45)))) fun w14 => some ((((p5 + (J (-1))) + (J (-1))), w14)))) else lt (((p0 / (J 100)) * (J 100)) - p0) fun x15 => grd (kin S (kad S 2) = some (12, 100)) <| grd (vp_in x15 (alen S (kad S 2))) <| grd (kin S p2 = some (2, alen S p2)) <| grd (vp_in (p5 + (J (-1))) (alen S p2)) <| lt (si v p2 (Int32.toNatClampNeg (p5 + (J (-1)))) (Int8.toInt32 (Int32.toInt8 (gi v (kad S 2) (Int32.toNatClampNeg x15))))) fun w20 => grd (kin S (kad S 1) = some (12, 100)) <| grd (vp_in x15 (alen S (kad S 1))) <| grd (vp_in ((p5 + (J (-1))) + (J (-1))) (alen S p2)) <| lt (si w20 p2 (Int32.toNatClampNeg ((p5 + (J (-1))) + (J (-1)))) (Int8.toInt32 (Int32.toInt8 (gi w20 (kad S 1) (Int32.toNatClampNeg x15))))) fun w24 => i22 w24 (p0 / (J 100)) p2 ((p5 + (J (-1))) + (J (-1))) p6)
noncomputable def K_ji_getChars_22 (N : Nat)  (n : Nat) (S : shp) : vl → Int32 → Nat → Int32 → Int32 → Option (Int32 × vl) :=
  Nat.rec (motive := fun _ => vl → Int32 → Nat → Int32 → Int32 → Option (Int32 × vl)) (fun _ _ _ _ _ => none) (fun _ i => Y_ji_getChars_22 N  i S) n
theorem sY_ji_getChars_22 (N : Nat)  (i22 : vl → Int32 → Nat → Int32 → Int32 → Option (Int32 × vl)) (S : shp)  (j22 : ∀ (v : vl) (p0 : Int32) (p2 : Nat) (p5 : Int32) (p6 : Int32), SimK B_ji_getChars 22 [some (.int p0), none, some (.ref p2), none, none, some (.int p5), some (.int p6)] [] S v (i22 v p0 p2 p5 p6) (ρpi S)) (v : vl) (p0 : Int32) (p2 : Nat) (p5 : Int32) (p6 : Int32) : SimK B_ji_getChars 22 [some (.int p0), none, some (.ref p2), none, none, some (.int p5), some (.int p6)] [] S v (Y_ji_getChars_22 N  i22 S v p0 p2 p5 p6) (ρpi S) := by
  unfold Y_ji_getChars_22
  refine sim_seg [(.iload_n 0, 0, 0, 0), (.bipush (-100), 0, 0, (-100))] [] (q := 25) (L' := [some (.int p0), none, some (.ref p2), none, none, some (.int p5), some (.int p6)]) (st' := [.int (J (-100)), .int p0]) (v1 := v) (by decide +kernel) rfl trivial ?_
  refine sim_gt (o := 47) (tg := 72) (f := 28) (by decide +kernel) rfl rfl (fun _ => ?_) (fun _ => ?_)
  · refine sim_seg [(.aload_n 2, 0, 0, 0), (.iinc 5 (-1), 0, 0, (-1))] [] (q := 76) (L' := [some (.int p0), none, some (.ref p2), none, none, some (.int (p5 + (J (-1)))), some (.int p6)]) (st' := [.ref p2]) (v1 := v) (by decide +kernel) rfl trivial ?_
    refine sim_seg [(.iload 5, 0, 0, 0)] [] (q := 78) (L' := [some (.int p0), none, some (.ref p2), none, none, some (.int (p5 + (J (-1)))), some (.int p6)]) (st' := [.int (p5 + (J (-1))), .ref p2]) (v1 := v) (by decide +kernel) rfl trivial ?_
    refine sim_gets (idx := 83) (m := 3) (pc3 := 81) (by decide) (by decide +kernel) (show Cond.fieldLink (owns (bO B_ji_getChars)) 83 "java/lang/Integer" "DigitOnes" "[B" ∈ tb2 from (List.mem_of_getElem? (i := 1018) (by decide +kernel))) rfl ?_
    show SimK _ _ _ ([.ref (kad S 2), .int (p5 + (J (-1))), .ref p2]) _ _ _ _
    refine sim_grd fun h1 => ?_
    refine sim_grd fun h2 => ?_
    refine sim_grd fun h3 => ?_
    refine sim_grd fun h4 => ?_
    refine sim_seg [(.iload_n 0, 0, 0, 0), (.ineg, 0, 0, 0), (.baload, 0, 0, 0), (.bastore, 0, 0, 0), (.iload_n 0, 0, 0, 0), (.bipush (-9), 0, 0, (-9))] [] (q := 88) (L' := [some (.int p0), none, some (.ref p2), none, none, some (.int (p5 + (J (-1)))), some (.int p6)]) (st' := [.int (J (-9)), .int p0]) (v1 := (si v p2 (Int32.toNatClampNeg (p5 + (J (-1)))) (Int8.toInt32 (Int32.toInt8 (gi v (kad S 2) (Int32.toNatClampNeg (-p0))))))) (by decide +kernel) rfl ⟨⟨(Or.inr (kin_alen h1)), h2⟩, ⟨h3, h4⟩, trivial⟩ ?_
    refine sim_lt (x := (si v p2 (Int32.toNatClampNeg (p5 + (J (-1)))) (Int8.toInt32 (Int32.toInt8 (gi v (kad S 2) (Int32.toNatClampNeg (-p0))))))) ?_
    generalize (si v p2 (Int32.toNatClampNeg (p5 + (J (-1)))) (Int8.toInt32 (Int32.toInt8 (gi v (kad S 2) (Int32.toNatClampNeg (-p0)))))) = w5
    refine sim_ge (o := 16) (tg := 104) (f := 91) (by decide +kernel) rfl rfl (fun _ => ?_) (fun _ => ?_)
    · refine sim_seg [(.aload_n 2, 0, 0, 0), (.iinc 5 (-1), 0, 0, (-1))] [] (q := 95) (L' := [some (.int p0), none, some (.ref p2), none, none, some (.int ((p5 + (J (-1))) + (J (-1)))), some (.int p6)]) (st' := [.ref p2]) (v1 := w5) (by decide +kernel) rfl trivial ?_
      refine sim_seg [(.iload 5, 0, 0, 0)] [] (q := 97) (L' := [some (.int p0), none, some (.ref p2), none, none, some (.int ((p5 + (J (-1))) + (J (-1)))), some (.int p6)]) (st' := [.int ((p5 + (J (-1))) + (J (-1))), .ref p2]) (v1 := w5) (by decide +kernel) rfl trivial ?_
      refine sim_gets (idx := 87) (m := 2) (pc3 := 100) (by decide) (by decide +kernel) (show Cond.fieldLink (owns (bO B_ji_getChars)) 87 "java/lang/Integer" "DigitTens" "[B" ∈ tb2 from (List.mem_of_getElem? (i := 1020) (by decide +kernel))) rfl ?_
      show SimK _ _ _ ([.ref (kad S 1), .int ((p5 + (J (-1))) + (J (-1))), .ref p2]) _ _ _ _
      refine sim_grd fun h6 => ?_
      refine sim_grd fun h7 => ?_
      refine sim_grd fun h8 => ?_
      refine sim_seg [(.iload_n 0, 0, 0, 0), (.ineg, 0, 0, 0), (.baload, 0, 0, 0), (.bastore, 0, 0, 0), (.iload 6, 0, 0, 0)] [] (q := 106) (L' := [some (.int p0), none, some (.ref p2), none, none, some (.int ((p5 + (J (-1))) + (J (-1)))), some (.int p6)]) (st' := [.int p6]) (v1 := (si w5 p2 (Int32.toNatClampNeg ((p5 + (J (-1))) + (J (-1)))) (Int8.toInt32 (Int32.toInt8 (gi w5 (kad S 1) (Int32.toNatClampNeg (-p0))))))) (by decide +kernel) rfl ⟨⟨(Or.inr (kin_alen h6)), h7⟩, ⟨h3, h8⟩, trivial⟩ ?_
      refine sim_lt (x := (si w5 p2 (Int32.toNatClampNeg ((p5 + (J (-1))) + (J (-1)))) (Int8.toInt32 (Int32.toInt8 (gi w5 (kad S 1) (Int32.toNatClampNeg (-p0))))))) ?_
      generalize (si w5 p2 (Int32.toNatClampNeg ((p5 + (J (-1))) + (J (-1)))) (Int8.toInt32 (Int32.toInt8 (gi w5 (kad S 1) (Int32.toNatClampNeg (-p0)))))) = w9
      refine sim_eq0 (o := 12) (tg := 118) (f := 109) (by decide +kernel) rfl rfl (fun _ => ?_) (fun _ => ?_)
      · refine sim_seg [(.iload 5, 0, 0, 0)] [] (q := 120) (L' := [some (.int p0), none, some (.ref p2), none, none, some (.int ((p5 + (J (-1))) + (J (-1)))), some (.int p6)]) (st' := [.int ((p5 + (J (-1))) + (J (-1)))]) (v1 := w9) (by decide +kernel) rfl trivial ?_
        exact sim_iret (by decide +kernel) rfl rfl rfl
      · refine sim_seg [(.aload_n 2, 0, 0, 0), (.iinc 5 (-1), 0, 0, (-1))] [] (q := 113) (L' := [some (.int p0), none, some (.ref p2), none, none, some (.int (((p5 + (J (-1))) + (J (-1))) + (J (-1)))), some (.int p6)]) (st' := [.ref p2]) (v1 := w9) (by decide +kernel) rfl trivial ?_
        refine sim_nm (((p5 + (J (-1))) + (J (-1))) + (J (-1))) (fun x10 => [some (.int p0), none, some (.ref p2), none, none, some (.int x10), some (.int p6)]) (fun x10 => [.ref p2]) (fun x10 => ?_) rfl rfl
        refine sim_grd fun h11 => ?_
        refine sim_seg [(.iload 5, 0, 0, 0), (.bipush 45, 0, 0, 45), (.bastore, 0, 0, 0), (.iload 5, 0, 0, 0)] [] (q := 120) (L' := [some (.int p0), none, some (.ref p2), none, none, some (.int x10), some (.int p6)]) (st' := [.int x10]) (v1 := (si w9 p2 (Int32.toNatClampNeg x10) (Int8.toInt32 (Int32.toInt8 (J 45))))) (by decide +kernel) rfl ⟨⟨h3, h11⟩, trivial⟩ ?_
        refine sim_lt (x := (si w9 p2 (Int32.toNatClampNeg x10) (Int8.toInt32 (Int32.toInt8 (J 45))))) ?_
        generalize (si w9 p2 (Int32.toNatClampNeg x10) (Int8.toInt32 (Int32.toInt8 (J 45)))) = w12
        exact sim_iret (by decide +kernel) rfl rfl rfl
    · refine sim_seg [(.iload 6, 0, 0, 0)] [] (q := 106) (L' := [some (.int p0), none, some (.ref p2), none, none, some (.int (p5 + (J (-1)))), some (.int p6)]) (st' := [.int p6]) (v1 := w5) (by decide +kernel) rfl trivial ?_
      refine sim_eq0 (o := 12) (tg := 118) (f := 109) (by decide +kernel) rfl rfl (fun _ => ?_) (fun _ => ?_)
      · refine sim_seg [(.iload 5, 0, 0, 0)] [] (q := 120) (L' := [some (.int p0), none, some (.ref p2), none, none, some (.int (p5 + (J (-1)))), some (.int p6)]) (st' := [.int (p5 + (J (-1)))]) (v1 := w5) (by decide +kernel) rfl trivial ?_
        exact sim_iret (by decide +kernel) rfl rfl rfl
      · refine sim_seg [(.aload_n 2, 0, 0, 0), (.iinc 5 (-1), 0, 0, (-1))] [] (q := 113) (L' := [some (.int p0), none, some (.ref p2), none, none, some (.int ((p5 + (J (-1))) + (J (-1)))), some (.int p6)]) (st' := [.ref p2]) (v1 := w5) (by decide +kernel) rfl trivial ?_
        refine sim_grd fun h13 => ?_
        refine sim_seg [(.iload 5, 0, 0, 0), (.bipush 45, 0, 0, 45), (.bastore, 0, 0, 0), (.iload 5, 0, 0, 0)] [] (q := 120) (L' := [some (.int p0), none, some (.ref p2), none, none, some (.int ((p5 + (J (-1))) + (J (-1)))), some (.int p6)]) (st' := [.int ((p5 + (J (-1))) + (J (-1)))]) (v1 := (si w5 p2 (Int32.toNatClampNeg ((p5 + (J (-1))) + (J (-1)))) (Int8.toInt32 (Int32.toInt8 (J 45))))) (by decide +kernel) rfl ⟨⟨h3, h13⟩, trivial⟩ ?_
        refine sim_lt (x := (si w5 p2 (Int32.toNatClampNeg ((p5 + (J (-1))) + (J (-1)))) (Int8.toInt32 (Int32.toInt8 (J 45))))) ?_
        generalize (si w5 p2 (Int32.toNatClampNeg ((p5 + (J (-1))) + (J (-1)))) (Int8.toInt32 (Int32.toInt8 (J 45)))) = w14
        exact sim_iret (by decide +kernel) rfl rfl rfl
  · refine sim_seg [(.iload_n 0, 0, 0, 0), (.bipush 100, 0, 0, 100), (.idiv, 0, 0, 0), (.istore_n 3, 0, 0, 0)] [] (q := 33) (L' := [some (.int p0), none, some (.ref p2), some (.int (p0 / (J 100))), none, some (.int p5), some (.int p6)]) (st' := []) (v1 := v) (by decide +kernel) rfl ⟨(by decide), trivial⟩ ?_
    refine sim_seg [(.iload_n 3, 0, 0, 0), (.bipush 100, 0, 0, 100), (.imul, 0, 0, 0), (.iload_n 0, 0, 0, 0), (.isub, 0, 0, 0), (.istore 4, 0, 0, 0)] [] (q := 41) (L' := [some (.int p0), none, some (.ref p2), some (.int (p0 / (J 100))), some (.int (((p0 / (J 100)) * (J 100)) - p0)), some (.int p5), some (.int p6)]) (st' := []) (v1 := v) (by decide +kernel) rfl trivial ?_
    refine sim_nm (((p0 / (J 100)) * (J 100)) - p0) (fun x15 => [some (.int p0), none, some (.ref p2), some (.int (p0 / (J 100))), some (.int x15), some (.int p5), some (.int p6)]) (fun x15 => []) (fun x15 => ?_) rfl rfl
    refine sim_seg [(.iload_n 3, 0, 0, 0), (.istore_n 0, 0, 0, 0)] [] (q := 43) (L' := [some (.int (p0 / (J 100))), none, some (.ref p2), some (.int (p0 / (J 100))), some (.int x15), some (.int p5), some (.int p6)]) (st' := []) (v1 := v) (by decide +kernel) rfl trivial ?_
    refine sim_seg [(.aload_n 2, 0, 0, 0), (.iinc 5 (-1), 0, 0, (-1))] [] (q := 47) (L' := [some (.int (p0 / (J 100))), none, some (.ref p2), some (.int (p0 / (J 100))), some (.int x15), some (.int (p5 + (J (-1)))), some (.int p6)]) (st' := [.ref p2]) (v1 := v) (by decide +kernel) rfl trivial ?_
    refine sim_seg [(.iload 5, 0, 0, 0)] [] (q := 49) (L' := [some (.int (p0 / (J 100))), none, some (.ref p2), some (.int (p0 / (J 100))), some (.int x15), some (.int (p5 + (J (-1)))), some (.int p6)]) (st' := [.int (p5 + (J (-1))), .ref p2]) (v1 := v) (by decide +kernel) rfl trivial ?_
    refine sim_gets (idx := 83) (m := 3) (pc3 := 52) (by decide) (by decide +kernel) (show Cond.fieldLink (owns (bO B_ji_getChars)) 83 "java/lang/Integer" "DigitOnes" "[B" ∈ tb2 from (List.mem_of_getElem? (i := 1018) (by decide +kernel))) rfl ?_
    show SimK _ _ _ ([.ref (kad S 2), .int (p5 + (J (-1))), .ref p2]) _ _ _ _
    refine sim_grd fun h16 => ?_
    refine sim_grd fun h17 => ?_
    refine sim_grd fun h18 => ?_
    refine sim_grd fun h19 => ?_
    refine sim_seg [(.iload 4, 0, 0, 0), (.baload, 0, 0, 0), (.bastore, 0, 0, 0), (.aload_n 2, 0, 0, 0), (.iinc 5 (-1), 0, 0, (-1))] [] (q := 60) (L' := [some (.int (p0 / (J 100))), none, some (.ref p2), some (.int (p0 / (J 100))), some (.int x15), some (.int ((p5 + (J (-1))) + (J (-1)))), some (.int p6)]) (st' := [.ref p2]) (v1 := (si v p2 (Int32.toNatClampNeg (p5 + (J (-1)))) (Int8.toInt32 (Int32.toInt8 (gi v (kad S 2) (Int32.toNatClampNeg x15)))))) (by decide +kernel) rfl ⟨⟨(Or.inr (kin_alen h16)), h17⟩, ⟨h18, h19⟩, trivial⟩ ?_
    refine sim_lt (x := (si v p2 (Int32.toNatClampNeg (p5 + (J (-1)))) (Int8.toInt32 (Int32.toInt8 (gi v (kad S 2) (Int32.toNatClampNeg x15)))))) ?_
    generalize (si v p2 (Int32.toNatClampNeg (p5 + (J (-1)))) (Int8.toInt32 (Int32.toInt8 (gi v (kad S 2) (Int32.toNatClampNeg x15))))) = w20
    refine sim_seg [(.iload 5, 0, 0, 0)] [] (q := 62) (L' := [some (.int (p0 / (J 100))), none, some (.ref p2), some (.int (p0 / (J 100))), some (.int x15), some (.int ((p5 + (J (-1))) + (J (-1)))), some (.int p6)]) (st' := [.int ((p5 + (J (-1))) + (J (-1))), .ref p2]) (v1 := w20) (by decide +kernel) rfl trivial ?_
    refine sim_gets (idx := 87) (m := 2) (pc3 := 65) (by decide) (by decide +kernel) (show Cond.fieldLink (owns (bO B_ji_getChars)) 87 "java/lang/Integer" "DigitTens" "[B" ∈ tb2 from (List.mem_of_getElem? (i := 1020) (by decide +kernel))) rfl ?_
    show SimK _ _ _ ([.ref (kad S 1), .int ((p5 + (J (-1))) + (J (-1))), .ref p2]) _ _ _ _
    refine sim_grd fun h21 => ?_
    refine sim_grd fun h22 => ?_
    refine sim_grd fun h23 => ?_
    refine sim_seg [(.iload 4, 0, 0, 0), (.baload, 0, 0, 0), (.bastore, 0, 0, 0), (.goto (-47), 0, 0, 0)] [] (q := 22) (L' := [some (.int (p0 / (J 100))), none, some (.ref p2), some (.int (p0 / (J 100))), some (.int x15), some (.int ((p5 + (J (-1))) + (J (-1)))), some (.int p6)]) (st' := []) (v1 := (si w20 p2 (Int32.toNatClampNeg ((p5 + (J (-1))) + (J (-1)))) (Int8.toInt32 (Int32.toInt8 (gi w20 (kad S 1) (Int32.toNatClampNeg x15)))))) (by decide +kernel) rfl ⟨⟨(Or.inr (kin_alen h21)), h22⟩, ⟨h18, h23⟩, trivial⟩ ?_
    refine sim_lt (x := (si w20 p2 (Int32.toNatClampNeg ((p5 + (J (-1))) + (J (-1)))) (Int8.toInt32 (Int32.toInt8 (gi w20 (kad S 1) (Int32.toNatClampNeg x15)))))) ?_
    generalize (si w20 p2 (Int32.toNatClampNeg ((p5 + (J (-1))) + (J (-1)))) (Int8.toInt32 (Int32.toInt8 (gi w20 (kad S 1) (Int32.toNatClampNeg x15))))) = w24
    exact sim_wk (L0 := [some (.int (p0 / (J 100))), none, some (.ref p2), none, none, some (.int ((p5 + (J (-1))) + (J (-1)))), some (.int p6)]) ⟨rfl, rfl, rfl, rfl, trivial⟩ (j22 w24 (p0 / (J 100)) p2 ((p5 + (J (-1))) + (J (-1))) p6)
theorem sR_ji_getChars_22 (N : Nat)  (S : shp)  (n : Nat) : ∀ (v : vl) (p0 : Int32) (p2 : Nat) (p5 : Int32) (p6 : Int32), SimK B_ji_getChars 22 [some (.int p0), none, some (.ref p2), none, none, some (.int p5), some (.int p6)] [] S v (K_ji_getChars_22 N  n S v p0 p2 p5 p6) (ρpi S) := by
  induction n with
  | zero => intro v p0 p2 p5 p6; exact sim_none
  | succ k ih => intro v p0 p2 p5 p6; exact sY_ji_getChars_22 N   _ S  ih v p0 p2 p5 p6
theorem sK_ji_getChars_22 (N : Nat)  (n : Nat) (S : shp) (v : vl) (p0 : Int32) (p2 : Nat) (p5 : Int32) (p6 : Int32) : SimK B_ji_getChars 22 [some (.int p0), none, some (.ref p2), none, none, some (.int p5), some (.int p6)] [] S v (K_ji_getChars_22 N  n S v p0 p2 p5 p6) (ρpi S) := sR_ji_getChars_22 N   S  n  v p0 p2 p5 p6
noncomputable def F_ji_getChars (N : Nat) (b0 : Int32) (b1 : Int32) (a2 : Nat) (S : shp) (v : vl) : Option (Int32 × vl) :=
  (if b0 < (J 0) then K_ji_getChars_22 N  N S v b0 a2 b1 (J 1) else K_ji_getChars_22 N  N S v (-b0) a2 b1 (J 0))
theorem ok_ji_getChars (N : Nat) (b0 : Int32) (b1 : Int32) (a2 : Nat) (S : shp) (v : vl) : SimK B_ji_getChars 0 (entB (bN B_ji_getChars) [.int b0, .int b1, .ref a2]) [] S v (F_ji_getChars N b0 b1 a2 S v) (ρpi S) := by
  show SimK B_ji_getChars 0 [some (.int b0), some (.int b1), some (.ref a2), none, none, none, none] [] S v (F_ji_getChars N b0 b1 a2 S v) _
  unfold F_ji_getChars
  refine sim_seg [(.iload_n 1, 0, 0, 0), (.istore 5, 0, 0, 0)] [] (q := 3) (L' := [some (.int b0), some (.int b1), some (.ref a2), none, none, some (.int b1), none]) (st' := []) (v1 := v) (by decide +kernel) rfl trivial ?_
  refine sim_seg [(.iload_n 0, 0, 0, 0)] [] (q := 4) (L' := [some (.int b0), some (.int b1), some (.ref a2), none, none, some (.int b1), none]) (st' := [.int b0]) (v1 := v) (by decide +kernel) rfl trivial ?_
  refine sim_ge0 (o := 7) (tg := 11) (f := 7) (by decide +kernel) rfl rfl (fun _ => ?_) (fun _ => ?_)
  · refine sim_seg [(.iconst 1, 0, 0, 1), (.goto 4, 0, 0, 0), (.istore 6, 0, 0, 0)] [] (q := 14) (L' := [some (.int b0), some (.int b1), some (.ref a2), none, none, some (.int b1), some (.int (J 1))]) (st' := []) (v1 := v) (by decide +kernel) rfl trivial ?_
    refine sim_seg [(.iload 6, 0, 0, 0)] [] (q := 16) (L' := [some (.int b0), some (.int b1), some (.ref a2), none, none, some (.int b1), some (.int (J 1))]) (st' := [.int (J 1)]) (v1 := v) (by decide +kernel) rfl trivial ?_
    refine sim_ifF (c := (J 1) = (J 0)) (by decide) (sim_ne0 (o := 6) (tg := 22) (f := 19) (by decide +kernel) rfl rfl (fun _ => sim_none) (fun _ => ?_))
    exact sim_wk (L0 := [some (.int b0), none, some (.ref a2), none, none, some (.int b1), some (.int (J 1))]) ⟨rfl, rfl, rfl, rfl, trivial⟩ (sK_ji_getChars_22 N N S v b0 a2 b1 (J 1))
  · refine sim_seg [(.iconst 0, 0, 0, 0), (.istore 6, 0, 0, 0)] [] (q := 14) (L' := [some (.int b0), some (.int b1), some (.ref a2), none, none, some (.int b1), some (.int (J 0))]) (st' := []) (v1 := v) (by decide +kernel) rfl trivial ?_
    refine sim_seg [(.iload 6, 0, 0, 0)] [] (q := 16) (L' := [some (.int b0), some (.int b1), some (.ref a2), none, none, some (.int b1), some (.int (J 0))]) (st' := [.int (J 0)]) (v1 := v) (by decide +kernel) rfl trivial ?_
    refine sim_ifT (c := (J 0) = (J 0)) (by decide) (sim_ne0 (o := 6) (tg := 22) (f := 19) (by decide +kernel) rfl rfl (fun _ => ?_) (fun _ => sim_none))
    refine sim_seg [(.iload_n 0, 0, 0, 0), (.ineg, 0, 0, 0), (.istore_n 0, 0, 0, 0)] [] (q := 22) (L' := [some (.int (-b0)), some (.int b1), some (.ref a2), none, none, some (.int b1), some (.int (J 0))]) (st' := []) (v1 := v) (by decide +kernel) rfl trivial ?_
    exact sim_wk (L0 := [some (.int (-b0)), none, some (.ref a2), none, none, some (.int b1), some (.int (J 0))]) ⟨rfl, rfl, rfl, rfl, trivial⟩ (sK_ji_getChars_22 N N S v (-b0) a2 b1 (J 0))
