/-! Methods: gm_init, gm_thrown, gm_appendWord, gm_appendInput, gm_inRange, gm_truncateInput, gm_byteAt, gm_advanceToken, gm_copies, gm_isWord, gm_accepts, gm_failsAt, gm_sees, gm_reads, gm_readsSigned, gm_readClock, gm_readEnd, gm_isOnce, gm_readOnce, gm_mayBeP, gm_readPrescale. -/
def B_gm_init : bd := (⟨"GateCounterModel", "<init>", "()V"⟩, prog_8_method_1_code, 1, none, [], 6, 1)
theorem m_gm_init : mI B_gm_init 0 := ⟨⟨⟨by decide +kernel, Or.inl rfl⟩, rfl, (List.mem_of_getElem? (i := 1599) (by decide +kernel)), by decide +kernel, (List.mem_of_getElem? (i := 104) (by decide +kernel)), ⟨by decide, by decide⟩, by decide⟩, rfl, rfl, (by unfold nar; decide +kernel), (List.mem_of_getElem? (i := 1598) (by decide +kernel)), rfl⟩
noncomputable def F_gm_init (N : Nat) (a0 : Nat) (S : shp) (v : vl) : Option (shp × vl) :=
  grd (kin S (nxt S) = none) <| lt3 (grow S (1, 199) 199) (nxt S) (zero v (nxt S)) fun S2 r3 v4 => grd (kin S2 a0 = some (0, 6)) <| lt (sr S2 a0 0 (some r3)) fun S8 => grd (kin S8 (nxt S8) = none) <| lt3 (grow S8 (1, 199) 199) (nxt S8) (zero v4 (nxt S8)) fun S11 r12 v13 => grd (kin S11 a0 = some (0, 6)) <| lt (sr S11 a0 1 (some r12)) fun S17 => grd (kin S17 (nxt S17) = none) <| lt3 (grow S17 (1, 199) 199) (nxt S17) (zero v13 (nxt S17)) fun S20 r21 v22 => grd (kin S20 a0 = some (0, 6)) <| lt (sr S20 a0 2 (some r21)) fun S26 => grd (kin S26 (nxt S26) = none) <| lt3 (grow S26 (1, 199) 199) (nxt S26) (zero v22 (nxt S26)) fun S29 r30 v31 => grd (kin S29 a0 = some (0, 6)) <| lt (sr S29 a0 3 (some r30)) fun S35 => grd (kin S35 (nxt S35) = none) <| lt3 (grow S35 (1, 1592) 1592) (nxt S35) (zero v31 (nxt S35)) fun S38 r39 v40 => grd (kin S38 a0 = some (0, 6)) <| lt (sr S38 a0 4 (some r39)) fun S44 => grd (kin S44 (nxt S44) = none) <| lt3 (grow S44 (1, 500) 500) (nxt S44) (zero v40 (nxt S44)) fun S47 r48 v49 => grd (kin S47 a0 = some (0, 6)) <| lt (sr S47 a0 16 (some r48)) fun S53 => lt (si v49 a0 19 (J (-1))) fun w55 => grd (kin S53 (nxt S53) = none) <| lt3 (grow S53 (1, 300) 300) (nxt S53) (zero w55 (nxt S53)) fun S57 r58 v59 => grd (kin S57 a0 = some (0, 6)) <| lt (sr S57 a0 28 (some r58)) fun S63 => (F_gm_begins N a0 S63 v59).bind fun w65 => (gr S63 a0 0).bind fun r66 => grd (kin S63 r66 = some (1, 199)) <| lt (si w65 r66 1 (J 10)) fun w69 => lt (si w69 r66 9 (J 10)) fun w70 => some ((S63, w70))
theorem ok_gm_init (N : Nat) (a0 : Nat) (S : shp) (v : vl) : SimK B_gm_init 0 (entB (bN B_gm_init) [.ref a0]) [] S v (F_gm_init N a0 S v) (ρgv) := by
  show SimK B_gm_init 0 [some (.ref a0)] [] S v (F_gm_init N a0 S v) _
  unfold F_gm_init
  refine sim_seg [(.aload_n 0, 0, 0, 0)] [] (q := 1) (L' := [some (.ref a0)]) (st' := [.ref a0]) (v1 := v) (by decide +kernel) rfl trivial ?_
  refine sim_oinit (idx := 1) (pc3 := 4) (by decide +kernel) (List.mem_of_getElem? (i := 1600) (by decide +kernel)) (by decide) (Nat.le_of_ble_eq_true rfl) rfl ?_
  refine sim_seg [(.aload_n 0, 0, 0, 0), (.sipush 199, 0, 0, 199)] [] (q := 8) (L' := [some (.ref a0)]) (st' := [.int (J 199), .ref a0]) (v1 := v) (by decide +kernel) rfl trivial ?_
  refine sim_grd fun h1 => ?_
  refine sim_newa (ty := 0) (N := 199) (pc3 := 10) (by decide) (by decide +kernel) rfl (by decide) (by decide) (by decide) h1 (fun S2 r3 v4 h5 h6 => ?_)
  refine sim_grd fun h7 => ?_
  refine sim_putr (idx := 7) (ci := 6) (m := 0) (pc3 := 13) (by decide +kernel) (by decide) (Or.inr ⟨rfl, rfl⟩) h7 rfl rfl (fun S8 h9 => ?_)
  refine sim_seg [(.aload_n 0, 0, 0, 0), (.sipush 199, 0, 0, 199)] [] (q := 17) (L' := [some (.ref a0)]) (st' := [.int (J 199), .ref a0]) (v1 := v4) (by decide +kernel) rfl trivial ?_
  refine sim_grd fun h10 => ?_
  refine sim_newa (ty := 0) (N := 199) (pc3 := 19) (by decide) (by decide +kernel) rfl (by decide) (by decide) (by decide) h10 (fun S11 r12 v13 h14 h15 => ?_)
  refine sim_grd fun h16 => ?_
  refine sim_putr (idx := 13) (ci := 6) (m := 1) (pc3 := 22) (by decide +kernel) (by decide) (Or.inr ⟨rfl, rfl⟩) h16 rfl rfl (fun S17 h18 => ?_)
  refine sim_seg [(.aload_n 0, 0, 0, 0), (.sipush 199, 0, 0, 199)] [] (q := 26) (L' := [some (.ref a0)]) (st' := [.int (J 199), .ref a0]) (v1 := v13) (by decide +kernel) rfl trivial ?_
  refine sim_grd fun h19 => ?_
  refine sim_newa (ty := 0) (N := 199) (pc3 := 28) (by decide) (by decide +kernel) rfl (by decide) (by decide) (by decide) h19 (fun S20 r21 v22 h23 h24 => ?_)
  refine sim_grd fun h25 => ?_
  refine sim_putr (idx := 16) (ci := 6) (m := 2) (pc3 := 31) (by decide +kernel) (by decide) (Or.inr ⟨rfl, rfl⟩) h25 rfl rfl (fun S26 h27 => ?_)
  refine sim_seg [(.aload_n 0, 0, 0, 0), (.sipush 199, 0, 0, 199)] [] (q := 35) (L' := [some (.ref a0)]) (st' := [.int (J 199), .ref a0]) (v1 := v22) (by decide +kernel) rfl trivial ?_
  refine sim_grd fun h28 => ?_
  refine sim_newa (ty := 0) (N := 199) (pc3 := 37) (by decide) (by decide +kernel) rfl (by decide) (by decide) (by decide) h28 (fun S29 r30 v31 h32 h33 => ?_)
  refine sim_grd fun h34 => ?_
  refine sim_putr (idx := 19) (ci := 6) (m := 3) (pc3 := 40) (by decide +kernel) (by decide) (Or.inr ⟨rfl, rfl⟩) h34 rfl rfl (fun S35 h36 => ?_)
  refine sim_seg [(.aload_n 0, 0, 0, 0), (.sipush 1592, 0, 0, 1592)] [] (q := 44) (L' := [some (.ref a0)]) (st' := [.int (J 1592), .ref a0]) (v1 := v31) (by decide +kernel) rfl trivial ?_
  refine sim_grd fun h37 => ?_
  refine sim_newa (ty := 0) (N := 1592) (pc3 := 46) (by decide) (by decide +kernel) rfl (by decide) (by decide) (by decide) h37 (fun S38 r39 v40 h41 h42 => ?_)
  refine sim_grd fun h43 => ?_
  refine sim_putr (idx := 22) (ci := 6) (m := 4) (pc3 := 49) (by decide +kernel) (by decide) (Or.inr ⟨rfl, rfl⟩) h43 rfl rfl (fun S44 h45 => ?_)
  refine sim_seg [(.aload_n 0, 0, 0, 0), (.sipush 500, 0, 0, 500)] [] (q := 53) (L' := [some (.ref a0)]) (st' := [.int (J 500), .ref a0]) (v1 := v40) (by decide +kernel) rfl trivial ?_
  refine sim_grd fun h46 => ?_
  refine sim_newa (ty := 0) (N := 500) (pc3 := 55) (by decide) (by decide +kernel) rfl (by decide) (by decide) (by decide) h46 (fun S47 r48 v49 h50 h51 => ?_)
  refine sim_grd fun h52 => ?_
  refine sim_putr (idx := 25) (ci := 6) (m := 16) (pc3 := 58) (by decide +kernel) (by decide) (Or.inr ⟨rfl, rfl⟩) h52 rfl rfl (fun S53 h54 => ?_)
  refine sim_seg [(.aload_n 0, 0, 0, 0), (.iconst (-1), 0, 0, (-1)), (.putfield 28, 6, 19, 0), (.aload_n 0, 0, 0, 0), (.sipush 300, 0, 0, 300)] [] (q := 67) (L' := [some (.ref a0)]) (st' := [.int (J 300), .ref a0]) (v1 := (si v49 a0 19 (J (-1)))) (by decide +kernel) rfl ⟨(h54.2.2.2.2 _ _ h52), trivial⟩ ?_
  refine sim_lt (x := (si v49 a0 19 (J (-1)))) ?_
  generalize (si v49 a0 19 (J (-1))) = w55
  refine sim_grd fun h56 => ?_
  refine sim_newa (ty := 0) (N := 300) (pc3 := 69) (by decide) (by decide +kernel) rfl (by decide) (by decide) (by decide) h56 (fun S57 r58 v59 h60 h61 => ?_)
  refine sim_grd fun h62 => ?_
  refine sim_putr (idx := 32) (ci := 6) (m := 28) (pc3 := 72) (by decide +kernel) (by decide) (Or.inr ⟨rfl, rfl⟩) h62 rfl rfl (fun S63 h64 => ?_)
  refine sim_seg [(.aload_n 0, 0, 0, 0)] [] (q := 73) (L' := [some (.ref a0)]) (st' := [.ref a0]) (v1 := v59) (by decide +kernel) rfl trivial ?_
  refine sc_pv (pc3 := 76) (cf_V (idx := 35) (ci := 6) [] m_gm_begins (by decide) ⟨by decide, by decide⟩ (List.mem_of_getElem? (i := 1601) (by decide +kernel)) rfl (Nat.le_of_ble_eq_true rfl) (h64.2.2.2.2 _ _ h62) (by decide +kernel) (Nat.le_of_ble_eq_true rfl) rfl) (ok_gm_begins N a0 S63 v59) rfl (fun w65 => ?_)
  refine sim_bind fun r66 h67 => ?_
  refine sim_grd fun h68 => ?_
  refine sim_seg [(.aload_n 0, 0, 0, 0), (.getfield 7, 6, 0, 0), (.iconst 1, 0, 0, 1), (.bipush 10, 0, 0, 10), (.iastore, 0, 0, 0), (.aload_n 0, 0, 0, 0)] [r66] (q := 85) (L' := [some (.ref a0)]) (st' := [.ref a0]) (v1 := (si w65 r66 1 (J 10))) (by decide +kernel) rfl ⟨⟨(h64.2.2.2.2 _ _ h62), h67⟩, ⟨(kin_alen h68), (vin_J h68 (by unfold vp_in; decide))⟩, trivial⟩ ?_
  refine sim_lt (x := (si w65 r66 1 (J 10))) ?_
  generalize (si w65 r66 1 (J 10)) = w69
  refine sim_seg [(.getfield 7, 6, 0, 0), (.bipush 9, 0, 0, 9), (.bipush 10, 0, 0, 10), (.iastore, 0, 0, 0)] [r66] (q := 93) (L' := [some (.ref a0)]) (st' := []) (v1 := (si w69 r66 9 (J 10))) (by decide +kernel) rfl ⟨⟨(h64.2.2.2.2 _ _ h62), h67⟩, ⟨(kin_alen h68), (vin_J h68 (by unfold vp_in; decide))⟩, trivial⟩ ?_
  refine sim_lt (x := (si w69 r66 9 (J 10))) ?_
  generalize (si w69 r66 9 (J 10)) = w70
  exact sim_vret (by decide +kernel) rfl rfl
def B_gm_thrown : bd := (⟨"GateCounterModel", "thrown", "()I"⟩, prog_8_method_2_code, 1, (some .int), [], 6, 0)
theorem m_gm_thrown : mV B_gm_thrown 6 0 := ⟨⟨⟨by decide +kernel, Or.inl rfl⟩, rfl, (List.mem_of_getElem? (i := 1699) (by decide +kernel)), by decide +kernel, (List.mem_of_getElem? (i := 104) (by decide +kernel)), ⟨by decide, by decide⟩, by decide⟩, rfl, (by unfold nar; decide +kernel), (List.mem_of_getElem? (i := 1697) (by decide +kernel)), rfl, (List.mem_of_getElem? (i := 1698) (by decide +kernel))⟩
noncomputable def F_gm_thrown (a0 : Nat) (S : shp) (v : vl) : Option Int32 :=
  grd (kin S a0 = some (0, 6)) <| some ((gi v a0 10))
theorem ok_gm_thrown (a0 : Nat) (S : shp) (v : vl) : SimK B_gm_thrown 0 (entB (bN B_gm_thrown) [.ref a0]) [] S v (F_gm_thrown a0 S v) (ρri S v) := by
  show SimK B_gm_thrown 0 [some (.ref a0)] [] S v (F_gm_thrown a0 S v) _
  unfold F_gm_thrown
  refine sim_grd fun h1 => ?_
  refine sim_seg [(.aload_n 0, 0, 0, 0), (.getfield 38, 6, 10, 0)] [] (q := 4) (L' := [some (.ref a0)]) (st' := [.int (gi v a0 10)]) (v1 := v) (by decide +kernel) rfl ⟨h1, trivial⟩ ?_
  exact sim_iret (by decide +kernel) rfl rfl rfl
def B_gm_appendWord : bd := (⟨"GateCounterModel", "appendWord", "(I)V"⟩, prog_8_method_36_code, 3, none, [], 6, 0)
theorem m_gm_appendWord : mV B_gm_appendWord 6 1 := ⟨⟨⟨by decide +kernel, Or.inl rfl⟩, rfl, (List.mem_of_getElem? (i := 1707) (by decide +kernel)), by decide +kernel, (List.mem_of_getElem? (i := 104) (by decide +kernel)), ⟨by decide, by decide⟩, by decide⟩, rfl, (by unfold nar; decide +kernel), (List.mem_of_getElem? (i := 1706) (by decide +kernel)), rfl, (List.mem_of_getElem? (i := 33) (by decide +kernel))⟩
noncomputable def Y_gm_appendWord_3 (N : Nat)  (i3 : vl → Nat → Int32 → Int32 → Option vl) (S : shp) (v : vl) (p0 : Nat) (p1 : Int32) (p2 : Int32) : Option vl :=
  (if p2 < (J 0) then some (v) else grd (kin S p0 = some (0, 6)) <| (gr S p0 16).bind fun r2 => grd (kin S r2 = some (1, 500)) <| grd (vp_in (gi v p0 17) (alen S r2)) <| lt (si v r2 (Int32.toNatClampNeg (gi v p0 17)) ((p1 >>> (p2 &&& 31)) &&& (J 255))) fun w6 => lt (si w6 p0 17 ((gi w6 p0 17) + (J 1))) fun w7 => i3 w7 p0 p1 (p2 + (J (-8))))
noncomputable def K_gm_appendWord_3 (N : Nat)  (n : Nat) (S : shp) : vl → Nat → Int32 → Int32 → Option vl :=
  Nat.rec (motive := fun _ => vl → Nat → Int32 → Int32 → Option vl) (fun _ _ _ _ => none) (fun _ i => Y_gm_appendWord_3 N  i S) n
theorem sY_gm_appendWord_3 (N : Nat)  (i3 : vl → Nat → Int32 → Int32 → Option vl) (S : shp)  (j3 : ∀ (v : vl) (p0 : Nat) (p1 : Int32) (p2 : Int32), SimK B_gm_appendWord 3 [some (.ref p0), some (.int p1), some (.int p2)] [] S v (i3 v p0 p1 p2) (ρpv S)) (v : vl) (p0 : Nat) (p1 : Int32) (p2 : Int32) : SimK B_gm_appendWord 3 [some (.ref p0), some (.int p1), some (.int p2)] [] S v (Y_gm_appendWord_3 N  i3 S v p0 p1 p2) (ρpv S) := by
  unfold Y_gm_appendWord_3
  refine sim_seg [(.iload_n 2, 0, 0, 0)] [] (q := 4) (L' := [some (.ref p0), some (.int p1), some (.int p2)]) (st' := [.int p2]) (v1 := v) (by decide +kernel) rfl trivial ?_
  refine sim_lt0 (o := 35) (tg := 39) (f := 7) (by decide +kernel) rfl rfl (fun _ => ?_) (fun _ => ?_)
  · exact sim_vret (by decide +kernel) rfl rfl
  · refine sim_grd fun h1 => ?_
    refine sim_bind fun r2 h3 => ?_
    refine sim_grd fun h4 => ?_
    refine sim_grd fun h5 => ?_
    refine sim_seg [(.aload_n 0, 0, 0, 0), (.getfield 25, 6, 16, 0), (.aload_n 0, 0, 0, 0), (.getfield 158, 6, 17, 0), (.iload_n 1, 0, 0, 0), (.iload_n 2, 0, 0, 0), (.ishr, 0, 0, 0), (.sipush 255, 0, 0, 255), (.iand, 0, 0, 0), (.iastore, 0, 0, 0), (.aload_n 0, 0, 0, 0), (.dup, 0, 0, 0)] [r2] (q := 25) (L' := [some (.ref p0), some (.int p1), some (.int p2)]) (st' := [.ref p0, .ref p0]) (v1 := (si v r2 (Int32.toNatClampNeg (gi v p0 17)) ((p1 >>> (p2 &&& 31)) &&& (J 255)))) (by decide +kernel) rfl ⟨⟨h1, h3⟩, h1, ⟨(kin_alen h4), h5⟩, trivial⟩ ?_
    refine sim_lt (x := (si v r2 (Int32.toNatClampNeg (gi v p0 17)) ((p1 >>> (p2 &&& 31)) &&& (J 255)))) ?_
    generalize (si v r2 (Int32.toNatClampNeg (gi v p0 17)) ((p1 >>> (p2 &&& 31)) &&& (J 255))) = w6
    refine sim_seg [(.getfield 158, 6, 17, 0), (.iconst 1, 0, 0, 1), (.iadd, 0, 0, 0), (.putfield 158, 6, 17, 0), (.iinc 2 (-8), 0, 0, (-8))] [] (q := 36) (L' := [some (.ref p0), some (.int p1), some (.int (p2 + (J (-8))))]) (st' := []) (v1 := (si w6 p0 17 ((gi w6 p0 17) + (J 1)))) (by decide +kernel) rfl ⟨h1, h1, trivial⟩ ?_
    refine sim_lt (x := (si w6 p0 17 ((gi w6 p0 17) + (J 1)))) ?_
    generalize (si w6 p0 17 ((gi w6 p0 17) + (J 1))) = w7
    refine sim_seg [(.goto (-33), 0, 0, 0)] [] (q := 3) (L' := [some (.ref p0), some (.int p1), some (.int (p2 + (J (-8))))]) (st' := []) (v1 := w7) (by decide +kernel) rfl trivial ?_
    exact j3 w7 p0 p1 (p2 + (J (-8)))
theorem sR_gm_appendWord_3 (N : Nat)  (S : shp)  (n : Nat) : ∀ (v : vl) (p0 : Nat) (p1 : Int32) (p2 : Int32), SimK B_gm_appendWord 3 [some (.ref p0), some (.int p1), some (.int p2)] [] S v (K_gm_appendWord_3 N  n S v p0 p1 p2) (ρpv S) := by
  induction n with
  | zero => intro v p0 p1 p2; exact sim_none
  | succ k ih => intro v p0 p1 p2; exact sY_gm_appendWord_3 N   _ S  ih v p0 p1 p2
theorem sK_gm_appendWord_3 (N : Nat)  (n : Nat) (S : shp) (v : vl) (p0 : Nat) (p1 : Int32) (p2 : Int32) : SimK B_gm_appendWord 3 [some (.ref p0), some (.int p1), some (.int p2)] [] S v (K_gm_appendWord_3 N  n S v p0 p1 p2) (ρpv S) := sR_gm_appendWord_3 N   S  n  v p0 p1 p2
noncomputable def F_gm_appendWord (N : Nat) (a0 : Nat) (b1 : Int32) (S : shp) (v : vl) : Option vl :=
  K_gm_appendWord_3 N  N S v a0 b1 (J 24)
theorem ok_gm_appendWord (N : Nat) (a0 : Nat) (b1 : Int32) (S : shp) (v : vl) : SimK B_gm_appendWord 0 (entB (bN B_gm_appendWord) [.ref a0, .int b1]) [] S v (F_gm_appendWord N a0 b1 S v) (ρpv S) := by
  show SimK B_gm_appendWord 0 [some (.ref a0), some (.int b1), none] [] S v (F_gm_appendWord N a0 b1 S v) _
  unfold F_gm_appendWord
  refine sim_seg [(.bipush 24, 0, 0, 24), (.istore_n 2, 0, 0, 0)] [] (q := 3) (L' := [some (.ref a0), some (.int b1), some (.int (J 24))]) (st' := []) (v1 := v) (by decide +kernel) rfl trivial ?_
  exact sK_gm_appendWord_3 N N S v a0 b1 (J 24)
def B_gm_appendInput : bd := (⟨"GateCounterModel", "appendInput", "(IIIII)I"⟩, prog_8_method_37_code, 6, (some .int), [], 6, 1)
theorem m_gm_appendInput : mV B_gm_appendInput 6 5 := ⟨⟨⟨by decide +kernel, Or.inl rfl⟩, rfl, (List.mem_of_getElem? (i := 1703) (by decide +kernel)), by decide +kernel, (List.mem_of_getElem? (i := 104) (by decide +kernel)), ⟨by decide, by decide⟩, by decide⟩, rfl, (by unfold nar; decide +kernel), (List.mem_of_getElem? (i := 1701) (by decide +kernel)), rfl, (List.mem_of_getElem? (i := 1702) (by decide +kernel))⟩
noncomputable def F_gm_appendInput (N : Nat) (a0 : Nat) (b1 : Int32) (b2 : Int32) (b3 : Int32) (b4 : Int32) (b5 : Int32) (S : shp) (v : vl) : Option (Int32 × vl) :=
  grd (kin S a0 = some (0, 6)) <| lt (si v a0 10 (J 0)) fun w2 => (if (J 500) < ((gi w2 a0 17) + (J 20)) then some (((J (-1)), w2)) else (F_gm_appendWord N a0 b1 S w2).bind fun w3 => (F_gm_appendWord N a0 b2 S w3).bind fun w4 => (F_gm_appendWord N a0 b3 S w4).bind fun w5 => (F_gm_appendWord N a0 b4 S w5).bind fun w6 => (F_gm_appendWord N a0 b5 S w6).bind fun w7 => some (((gi w7 a0 17), w7)))
theorem ok_gm_appendInput (N : Nat) (a0 : Nat) (b1 : Int32) (b2 : Int32) (b3 : Int32) (b4 : Int32) (b5 : Int32) (S : shp) (v : vl) : SimK B_gm_appendInput 0 (entB (bN B_gm_appendInput) [.ref a0, .int b1, .int b2, .int b3, .int b4, .int b5]) [] S v (F_gm_appendInput N a0 b1 b2 b3 b4 b5 S v) (ρpi S) := by
  show SimK B_gm_appendInput 0 [some (.ref a0), some (.int b1), some (.int b2), some (.int b3), some (.int b4), some (.int b5)] [] S v (F_gm_appendInput N a0 b1 b2 b3 b4 b5 S v) _
  unfold F_gm_appendInput
  refine sim_grd fun h1 => ?_
  refine sim_seg [(.aload_n 0, 0, 0, 0), (.iconst 0, 0, 0, 0), (.putfield 38, 6, 10, 0), (.aload_n 0, 0, 0, 0)] [] (q := 6) (L' := [some (.ref a0), some (.int b1), some (.int b2), some (.int b3), some (.int b4), some (.int b5)]) (st' := [.ref a0]) (v1 := (si v a0 10 (J 0))) (by decide +kernel) rfl ⟨h1, trivial⟩ ?_
  refine sim_lt (x := (si v a0 10 (J 0))) ?_
  generalize (si v a0 10 (J 0)) = w2
  refine sim_seg [(.getfield 158, 6, 17, 0), (.bipush 20, 0, 0, 20), (.iadd, 0, 0, 0), (.sipush 500, 0, 0, 500)] [] (q := 15) (L' := [some (.ref a0), some (.int b1), some (.int b2), some (.int b3), some (.int b4), some (.int b5)]) (st' := [.int (J 500), .int ((gi w2 a0 17) + (J 20))]) (v1 := w2) (by decide +kernel) rfl ⟨h1, trivial⟩ ?_
  refine sim_le (o := 5) (tg := 20) (f := 18) (by decide +kernel) rfl rfl (fun _ => ?_) (fun _ => ?_)
  · refine sim_seg [(.iconst (-1), 0, 0, (-1))] [] (q := 19) (L' := [some (.ref a0), some (.int b1), some (.int b2), some (.int b3), some (.int b4), some (.int b5)]) (st' := [.int (J (-1))]) (v1 := w2) (by decide +kernel) rfl trivial ?_
    exact sim_iret (by decide +kernel) rfl rfl rfl
  · refine sim_seg [(.aload_n 0, 0, 0, 0), (.iload_n 1, 0, 0, 0)] [] (q := 22) (L' := [some (.ref a0), some (.int b1), some (.int b2), some (.int b3), some (.int b4), some (.int b5)]) (st' := [.int b1, .ref a0]) (v1 := w2) (by decide +kernel) rfl trivial ?_
    refine sc_pv (pc3 := 25) (cf_V (idx := 161) (ci := 6) [.int b1] m_gm_appendWord (by decide) ⟨by decide, by decide⟩ (List.mem_of_getElem? (i := 1704) (by decide +kernel)) rfl (Nat.le_of_ble_eq_true rfl) h1 (by decide +kernel) (Nat.le_of_ble_eq_true rfl) rfl) (ok_gm_appendWord N a0 b1 S w2) rfl (fun w3 => ?_)
    refine sim_seg [(.aload_n 0, 0, 0, 0), (.iload_n 2, 0, 0, 0)] [] (q := 27) (L' := [some (.ref a0), some (.int b1), some (.int b2), some (.int b3), some (.int b4), some (.int b5)]) (st' := [.int b2, .ref a0]) (v1 := w3) (by decide +kernel) rfl trivial ?_
    refine sc_pv (pc3 := 30) (cf_V (idx := 161) (ci := 6) [.int b2] m_gm_appendWord (by decide) ⟨by decide, by decide⟩ (List.mem_of_getElem? (i := 1704) (by decide +kernel)) rfl (Nat.le_of_ble_eq_true rfl) h1 (by decide +kernel) (Nat.le_of_ble_eq_true rfl) rfl) (ok_gm_appendWord N a0 b2 S w3) rfl (fun w4 => ?_)
    refine sim_seg [(.aload_n 0, 0, 0, 0), (.iload_n 3, 0, 0, 0)] [] (q := 32) (L' := [some (.ref a0), some (.int b1), some (.int b2), some (.int b3), some (.int b4), some (.int b5)]) (st' := [.int b3, .ref a0]) (v1 := w4) (by decide +kernel) rfl trivial ?_
    refine sc_pv (pc3 := 35) (cf_V (idx := 161) (ci := 6) [.int b3] m_gm_appendWord (by decide) ⟨by decide, by decide⟩ (List.mem_of_getElem? (i := 1704) (by decide +kernel)) rfl (Nat.le_of_ble_eq_true rfl) h1 (by decide +kernel) (Nat.le_of_ble_eq_true rfl) rfl) (ok_gm_appendWord N a0 b3 S w4) rfl (fun w5 => ?_)
    refine sim_seg [(.aload_n 0, 0, 0, 0), (.iload 4, 0, 0, 0)] [] (q := 38) (L' := [some (.ref a0), some (.int b1), some (.int b2), some (.int b3), some (.int b4), some (.int b5)]) (st' := [.int b4, .ref a0]) (v1 := w5) (by decide +kernel) rfl trivial ?_
    refine sc_pv (pc3 := 41) (cf_V (idx := 161) (ci := 6) [.int b4] m_gm_appendWord (by decide) ⟨by decide, by decide⟩ (List.mem_of_getElem? (i := 1704) (by decide +kernel)) rfl (Nat.le_of_ble_eq_true rfl) h1 (by decide +kernel) (Nat.le_of_ble_eq_true rfl) rfl) (ok_gm_appendWord N a0 b4 S w5) rfl (fun w6 => ?_)
    refine sim_seg [(.aload_n 0, 0, 0, 0), (.iload 5, 0, 0, 0)] [] (q := 44) (L' := [some (.ref a0), some (.int b1), some (.int b2), some (.int b3), some (.int b4), some (.int b5)]) (st' := [.int b5, .ref a0]) (v1 := w6) (by decide +kernel) rfl trivial ?_
    refine sc_pv (pc3 := 47) (cf_V (idx := 161) (ci := 6) [.int b5] m_gm_appendWord (by decide) ⟨by decide, by decide⟩ (List.mem_of_getElem? (i := 1704) (by decide +kernel)) rfl (Nat.le_of_ble_eq_true rfl) h1 (by decide +kernel) (Nat.le_of_ble_eq_true rfl) rfl) (ok_gm_appendWord N a0 b5 S w6) rfl (fun w7 => ?_)
    refine sim_seg [(.aload_n 0, 0, 0, 0), (.getfield 158, 6, 17, 0)] [] (q := 51) (L' := [some (.ref a0), some (.int b1), some (.int b2), some (.int b3), some (.int b4), some (.int b5)]) (st' := [.int (gi w7 a0 17)]) (v1 := w7) (by decide +kernel) rfl ⟨h1, trivial⟩ ?_
    exact sim_iret (by decide +kernel) rfl rfl rfl
def B_gm_inRange : bd := (⟨"GateCounterModel", "inRange", "(III)Z"⟩, prog_8_method_3_code, 3, (some .boolean), [], 6, 0)
theorem m_gm_inRange : mS B_gm_inRange 3 := ⟨⟨⟨by decide +kernel, Or.inl rfl⟩, rfl, (List.mem_of_getElem? (i := 1714) (by decide +kernel)), by decide +kernel, (List.mem_of_getElem? (i := 104) (by decide +kernel)), ⟨by decide, by decide⟩, by decide⟩, rfl, (by unfold nar; decide +kernel), (List.mem_of_getElem? (i := 1713) (by decide +kernel))⟩
noncomputable def F_gm_inRange (b0 : Int32) (b1 : Int32) (b2 : Int32) (S : shp) (v : vl) : Option Int32 :=
  (if b0 < b1 then some ((J 0)) else (if b2 < b0 then some ((J 0)) else some ((J 1))))
theorem ok_gm_inRange (b0 : Int32) (b1 : Int32) (b2 : Int32) (S : shp) (v : vl) : SimK B_gm_inRange 0 (entB (bN B_gm_inRange) [.int b0, .int b1, .int b2]) [] S v (F_gm_inRange b0 b1 b2 S v) (ρri S v) := by
  show SimK B_gm_inRange 0 [some (.int b0), some (.int b1), some (.int b2)] [] S v (F_gm_inRange b0 b1 b2 S v) _
  unfold F_gm_inRange
  refine sim_seg [(.iload_n 0, 0, 0, 0), (.iload_n 1, 0, 0, 0)] [] (q := 2) (L' := [some (.int b0), some (.int b1), some (.int b2)]) (st' := [.int b1, .int b0]) (v1 := v) (by decide +kernel) rfl trivial ?_
  refine sim_lt' (o := 12) (tg := 14) (f := 5) (by decide +kernel) rfl rfl (fun _ => ?_) (fun _ => ?_)
  · refine sim_seg [(.iconst 0, 0, 0, 0)] [] (q := 15) (L' := [some (.int b0), some (.int b1), some (.int b2)]) (st' := [.int (J 0)]) (v1 := v) (by decide +kernel) rfl trivial ?_
    exact sim_iret (by decide +kernel) rfl (by decide) rfl
  · refine sim_seg [(.iload_n 0, 0, 0, 0), (.iload_n 2, 0, 0, 0)] [] (q := 7) (L' := [some (.int b0), some (.int b1), some (.int b2)]) (st' := [.int b2, .int b0]) (v1 := v) (by decide +kernel) rfl trivial ?_
    refine sim_gt (o := 7) (tg := 14) (f := 10) (by decide +kernel) rfl rfl (fun _ => ?_) (fun _ => ?_)
    · refine sim_seg [(.iconst 0, 0, 0, 0)] [] (q := 15) (L' := [some (.int b0), some (.int b1), some (.int b2)]) (st' := [.int (J 0)]) (v1 := v) (by decide +kernel) rfl trivial ?_
      exact sim_iret (by decide +kernel) rfl (by decide) rfl
    · refine sim_seg [(.iconst 1, 0, 0, 1), (.goto 4, 0, 0, 0)] [] (q := 15) (L' := [some (.int b0), some (.int b1), some (.int b2)]) (st' := [.int (J 1)]) (v1 := v) (by decide +kernel) rfl trivial ?_
      exact sim_iret (by decide +kernel) rfl (by decide) rfl
def B_gm_truncateInput : bd := (⟨"GateCounterModel", "truncateInput", "(I)Z"⟩, prog_8_method_38_code, 2, (some .boolean), [], 6, 1)
theorem m_gm_truncateInput : mV B_gm_truncateInput 6 1 := ⟨⟨⟨by decide +kernel, Or.inl rfl⟩, rfl, (List.mem_of_getElem? (i := 1711) (by decide +kernel)), by decide +kernel, (List.mem_of_getElem? (i := 104) (by decide +kernel)), ⟨by decide, by decide⟩, by decide⟩, rfl, (by unfold nar; decide +kernel), (List.mem_of_getElem? (i := 1709) (by decide +kernel)), rfl, (List.mem_of_getElem? (i := 1710) (by decide +kernel))⟩
noncomputable def F_gm_truncateInput (a0 : Nat) (b1 : Int32) (S : shp) (v : vl) : Option (Int32 × vl) :=
  grd (kin S a0 = some (0, 6)) <| lt (si v a0 10 (J 0)) fun w2 => (F_gm_inRange b1 (J 0) (gi w2 a0 17) S w2).bind fun x3 => (if x3 = (J 0) then some (((J 0), w2)) else lt (si w2 a0 17 b1) fun w4 => some (((J 1), w4)))
theorem ok_gm_truncateInput (a0 : Nat) (b1 : Int32) (S : shp) (v : vl) : SimK B_gm_truncateInput 0 (entB (bN B_gm_truncateInput) [.ref a0, .int b1]) [] S v (F_gm_truncateInput a0 b1 S v) (ρpi S) := by
  show SimK B_gm_truncateInput 0 [some (.ref a0), some (.int b1)] [] S v (F_gm_truncateInput a0 b1 S v) _
  unfold F_gm_truncateInput
  refine sim_grd fun h1 => ?_
  refine sim_seg [(.aload_n 0, 0, 0, 0), (.iconst 0, 0, 0, 0), (.putfield 38, 6, 10, 0), (.iload_n 1, 0, 0, 0), (.iconst 0, 0, 0, 0), (.aload_n 0, 0, 0, 0)] [] (q := 8) (L' := [some (.ref a0), some (.int b1)]) (st' := [.ref a0, .int (J 0), .int b1]) (v1 := (si v a0 10 (J 0))) (by decide +kernel) rfl ⟨h1, trivial⟩ ?_
  refine sim_lt (x := (si v a0 10 (J 0))) ?_
  generalize (si v a0 10 (J 0)) = w2
  refine sim_seg [(.getfield 158, 6, 17, 0)] [] (q := 11) (L' := [some (.ref a0), some (.int b1)]) (st' := [.int (gi w2 a0 17), .int (J 0), .int b1]) (v1 := w2) (by decide +kernel) rfl ⟨h1, trivial⟩ ?_
  refine sc_ri (pc3 := 14) (cf_S (idx := 41) [.int b1, .int (J 0), .int (gi w2 a0 17)] m_gm_inRange ⟨by decide, by decide⟩ (List.mem_of_getElem? (i := 1712) (by decide +kernel)) rfl (Nat.le_of_ble_eq_true rfl) (by decide +kernel) (Nat.le_of_ble_eq_true rfl) rfl) (ok_gm_inRange b1 (J 0) (gi w2 a0 17) S w2) rfl (fun x3 => ?_)
  refine sim_ne0 (o := 5) (tg := 19) (f := 17) (by decide +kernel) rfl rfl (fun _ => ?_) (fun _ => ?_)
  · refine sim_seg [(.iconst 0, 0, 0, 0)] [] (q := 18) (L' := [some (.ref a0), some (.int b1)]) (st' := [.int (J 0)]) (v1 := w2) (by decide +kernel) rfl trivial ?_
    exact sim_iret (by decide +kernel) rfl (by decide) rfl
  · refine sim_seg [(.aload_n 0, 0, 0, 0), (.iload_n 1, 0, 0, 0), (.putfield 158, 6, 17, 0), (.iconst 1, 0, 0, 1)] [] (q := 25) (L' := [some (.ref a0), some (.int b1)]) (st' := [.int (J 1)]) (v1 := (si w2 a0 17 b1)) (by decide +kernel) rfl ⟨h1, trivial⟩ ?_
    refine sim_lt (x := (si w2 a0 17 b1)) ?_
    generalize (si w2 a0 17 b1) = w4
    exact sim_iret (by decide +kernel) rfl (by decide) rfl
def B_gm_byteAt : bd := (⟨"GateCounterModel", "byteAt", "(I)I"⟩, prog_8_method_39_code, 2, (some .int), [], 6, 0)
theorem m_gm_byteAt : mV B_gm_byteAt 6 1 := ⟨⟨⟨by decide +kernel, Or.inl rfl⟩, rfl, (List.mem_of_getElem? (i := 1729) (by decide +kernel)), by decide +kernel, (List.mem_of_getElem? (i := 104) (by decide +kernel)), ⟨by decide, by decide⟩, by decide⟩, rfl, (by unfold nar; decide +kernel), (List.mem_of_getElem? (i := 1728) (by decide +kernel)), rfl, (List.mem_of_getElem? (i := 35) (by decide +kernel))⟩
noncomputable def F_gm_byteAt (a0 : Nat) (b1 : Int32) (S : shp) (v : vl) : Option Int32 :=
  grd (kin S a0 = some (0, 6)) <| (if b1 < (gi v a0 17) then (gr S a0 16).bind fun r2 => grd (kin S r2 = some (1, 500)) <| grd (vp_in b1 (alen S r2)) <| some ((gi v r2 (Int32.toNatClampNeg b1))) else some ((J (-1))))
theorem ok_gm_byteAt (a0 : Nat) (b1 : Int32) (S : shp) (v : vl) : SimK B_gm_byteAt 0 (entB (bN B_gm_byteAt) [.ref a0, .int b1]) [] S v (F_gm_byteAt a0 b1 S v) (ρri S v) := by
  show SimK B_gm_byteAt 0 [some (.ref a0), some (.int b1)] [] S v (F_gm_byteAt a0 b1 S v) _
  unfold F_gm_byteAt
  refine sim_grd fun h1 => ?_
  refine sim_seg [(.iload_n 1, 0, 0, 0), (.aload_n 0, 0, 0, 0), (.getfield 158, 6, 17, 0)] [] (q := 5) (L' := [some (.ref a0), some (.int b1)]) (st' := [.int (gi v a0 17), .int b1]) (v1 := v) (by decide +kernel) rfl ⟨h1, trivial⟩ ?_
  refine sim_ge (o := 12) (tg := 17) (f := 8) (by decide +kernel) rfl rfl (fun _ => ?_) (fun _ => ?_)
  · refine sim_bind fun r2 h3 => ?_
    refine sim_grd fun h4 => ?_
    refine sim_grd fun h5 => ?_
    refine sim_seg [(.aload_n 0, 0, 0, 0), (.getfield 25, 6, 16, 0), (.iload_n 1, 0, 0, 0), (.iaload, 0, 0, 0), (.goto 4, 0, 0, 0)] [r2] (q := 18) (L' := [some (.ref a0), some (.int b1)]) (st' := [.int (gi v r2 (Int32.toNatClampNeg b1))]) (v1 := v) (by decide +kernel) rfl ⟨⟨h1, h3⟩, ⟨(Or.inl (kin_alen h4)), h5⟩, trivial⟩ ?_
    exact sim_iret (by decide +kernel) rfl rfl rfl
  · refine sim_seg [(.iconst (-1), 0, 0, (-1))] [] (q := 18) (L' := [some (.ref a0), some (.int b1)]) (st' := [.int (J (-1))]) (v1 := v) (by decide +kernel) rfl trivial ?_
    exact sim_iret (by decide +kernel) rfl rfl rfl
def B_gm_advanceToken : bd := (⟨"GateCounterModel", "advanceToken", "()V"⟩, prog_8_method_40_code, 2, none, [], 6, 1)
theorem m_gm_advanceToken : mV B_gm_advanceToken 6 0 := ⟨⟨⟨by decide +kernel, Or.inl rfl⟩, rfl, (List.mem_of_getElem? (i := 1725) (by decide +kernel)), by decide +kernel, (List.mem_of_getElem? (i := 104) (by decide +kernel)), ⟨by decide, by decide⟩, by decide⟩, rfl, (by unfold nar; decide +kernel), (List.mem_of_getElem? (i := 1724) (by decide +kernel)), rfl, (List.mem_of_getElem? (i := 34) (by decide +kernel))⟩
noncomputable def Y_gm_advanceToken_137 (N : Nat)  (i137 : vl → Nat → Option vl) (S : shp) (v : vl) (p0 : Nat) : Option vl :=
  grd (kin S p0 = some (0, 6)) <| (F_gm_byteAt p0 (gi v p0 22) S v).bind fun x20 => (F_gm_inRange x20 (J 48) (J 57) S v).bind fun x21 => (if x21 = (J 0) then some (v) else (if ((gi v p0 22) - (gi v p0 23)) < (J 6) then (F_gm_byteAt p0 (gi v p0 22) S v).bind fun x22 => lt (si v p0 24 ((((J 10) * (gi v p0 24)) + x22) - (J 48))) fun w23 => lt (si w23 p0 22 ((gi w23 p0 22) + (J 1))) fun w24 => i137 w24 p0 else lt (si v p0 22 ((gi v p0 22) + (J 1))) fun w25 => i137 w25 p0))
noncomputable def K_gm_advanceToken_137 (N : Nat)  (n : Nat) (S : shp) : vl → Nat → Option vl :=
  Nat.rec (motive := fun _ => vl → Nat → Option vl) (fun _ _ => none) (fun _ i => Y_gm_advanceToken_137 N  i S) n
theorem sY_gm_advanceToken_137 (N : Nat)  (i137 : vl → Nat → Option vl) (S : shp)  (j137 : ∀ (v : vl) (p0 : Nat), SimK B_gm_advanceToken 137 [some (.ref p0), none] [] S v (i137 v p0) (ρpv S)) (v : vl) (p0 : Nat) : SimK B_gm_advanceToken 137 [some (.ref p0), none] [] S v (Y_gm_advanceToken_137 N  i137 S v p0) (ρpv S) := by
  unfold Y_gm_advanceToken_137
  refine sim_grd fun h19 => ?_
  refine sim_seg [(.aload_n 0, 0, 0, 0), (.aload_n 0, 0, 0, 0), (.getfield 165, 6, 22, 0)] [] (q := 142) (L' := [some (.ref p0), none]) (st' := [.int (gi v p0 22), .ref p0]) (v1 := v) (by decide +kernel) rfl ⟨h19, trivial⟩ ?_
  refine sc_ri (pc3 := 145) (cf_V (idx := 168) (ci := 6) [.int (gi v p0 22)] m_gm_byteAt (by decide) ⟨by decide, by decide⟩ (List.mem_of_getElem? (i := 1726) (by decide +kernel)) rfl (Nat.le_of_ble_eq_true rfl) h19 (by decide +kernel) (Nat.le_of_ble_eq_true rfl) rfl) (ok_gm_byteAt p0 (gi v p0 22) S v) rfl (fun x20 => ?_)
  refine sim_seg [(.bipush 48, 0, 0, 48), (.bipush 57, 0, 0, 57)] [] (q := 149) (L' := [some (.ref p0), none]) (st' := [.int (J 57), .int (J 48), .int x20]) (v1 := v) (by decide +kernel) rfl trivial ?_
  refine sc_ri (pc3 := 152) (cf_S (idx := 41) [.int x20, .int (J 48), .int (J 57)] m_gm_inRange ⟨by decide, by decide⟩ (List.mem_of_getElem? (i := 1712) (by decide +kernel)) rfl (Nat.le_of_ble_eq_true rfl) (by decide +kernel) (Nat.le_of_ble_eq_true rfl) rfl) (ok_gm_inRange x20 (J 48) (J 57) S v) rfl (fun x21 => ?_)
  refine sim_eq0 (o := 88) (tg := 240) (f := 155) (by decide +kernel) rfl rfl (fun _ => ?_) (fun _ => ?_)
  · exact sim_vret (by decide +kernel) rfl rfl
  · refine sim_seg [(.aload_n 0, 0, 0, 0), (.getfield 165, 6, 22, 0), (.aload_n 0, 0, 0, 0), (.getfield 171, 6, 23, 0), (.isub, 0, 0, 0), (.bipush 6, 0, 0, 6)] [] (q := 166) (L' := [some (.ref p0), none]) (st' := [.int (J 6), .int ((gi v p0 22) - (gi v p0 23))]) (v1 := v) (by decide +kernel) rfl ⟨h19, h19, trivial⟩ ?_
    refine sim_ge (o := 26) (tg := 192) (f := 169) (by decide +kernel) rfl rfl (fun _ => ?_) (fun _ => ?_)
    · refine sim_seg [(.aload_n 0, 0, 0, 0), (.bipush 10, 0, 0, 10), (.aload_n 0, 0, 0, 0), (.getfield 174, 6, 24, 0), (.imul, 0, 0, 0), (.aload_n 0, 0, 0, 0), (.aload_n 0, 0, 0, 0), (.getfield 165, 6, 22, 0)] [] (q := 182) (L' := [some (.ref p0), none]) (st' := [.int (gi v p0 22), .ref p0, .int ((J 10) * (gi v p0 24)), .ref p0]) (v1 := v) (by decide +kernel) rfl ⟨h19, h19, trivial⟩ ?_
      refine sc_ri (pc3 := 185) (cf_V (idx := 168) (ci := 6) [.int (gi v p0 22)] m_gm_byteAt (by decide) ⟨by decide, by decide⟩ (List.mem_of_getElem? (i := 1726) (by decide +kernel)) rfl (Nat.le_of_ble_eq_true rfl) h19 (by decide +kernel) (Nat.le_of_ble_eq_true rfl) rfl) (ok_gm_byteAt p0 (gi v p0 22) S v) rfl (fun x22 => ?_)
      refine sim_seg [(.iadd, 0, 0, 0), (.bipush 48, 0, 0, 48), (.isub, 0, 0, 0), (.putfield 174, 6, 24, 0), (.aload_n 0, 0, 0, 0), (.dup, 0, 0, 0)] [] (q := 194) (L' := [some (.ref p0), none]) (st' := [.ref p0, .ref p0]) (v1 := (si v p0 24 ((((J 10) * (gi v p0 24)) + x22) - (J 48)))) (by decide +kernel) rfl ⟨h19, trivial⟩ ?_
      refine sim_lt (x := (si v p0 24 ((((J 10) * (gi v p0 24)) + x22) - (J 48)))) ?_
      generalize (si v p0 24 ((((J 10) * (gi v p0 24)) + x22) - (J 48))) = w23
      refine sim_seg [(.getfield 165, 6, 22, 0), (.iconst 1, 0, 0, 1), (.iadd, 0, 0, 0), (.putfield 165, 6, 22, 0), (.goto (-65), 0, 0, 0)] [] (q := 137) (L' := [some (.ref p0), none]) (st' := []) (v1 := (si w23 p0 22 ((gi w23 p0 22) + (J 1)))) (by decide +kernel) rfl ⟨h19, h19, trivial⟩ ?_
      refine sim_lt (x := (si w23 p0 22 ((gi w23 p0 22) + (J 1)))) ?_
      generalize (si w23 p0 22 ((gi w23 p0 22) + (J 1))) = w24
      exact j137 w24 p0
    · refine sim_seg [(.aload_n 0, 0, 0, 0), (.dup, 0, 0, 0), (.getfield 165, 6, 22, 0), (.iconst 1, 0, 0, 1), (.iadd, 0, 0, 0), (.putfield 165, 6, 22, 0), (.goto (-65), 0, 0, 0)] [] (q := 137) (L' := [some (.ref p0), none]) (st' := []) (v1 := (si v p0 22 ((gi v p0 22) + (J 1)))) (by decide +kernel) rfl ⟨h19, h19, trivial⟩ ?_
      refine sim_lt (x := (si v p0 22 ((gi v p0 22) + (J 1)))) ?_
      generalize (si v p0 22 ((gi v p0 22) + (J 1))) = w25
      exact j137 w25 p0
theorem sR_gm_advanceToken_137 (N : Nat)  (S : shp)  (n : Nat) : ∀ (v : vl) (p0 : Nat), SimK B_gm_advanceToken 137 [some (.ref p0), none] [] S v (K_gm_advanceToken_137 N  n S v p0) (ρpv S) := by
  induction n with
  | zero => intro v p0; exact sim_none
  | succ k ih => intro v p0; exact sY_gm_advanceToken_137 N   _ S  ih v p0
theorem sK_gm_advanceToken_137 (N : Nat)  (n : Nat) (S : shp) (v : vl) (p0 : Nat) : SimK B_gm_advanceToken 137 [some (.ref p0), none] [] S v (K_gm_advanceToken_137 N  n S v p0) (ρpv S) := sR_gm_advanceToken_137 N   S  n  v p0
noncomputable def Y_gm_advanceToken_90 (N : Nat)  (i90 : vl → Nat → Option vl) (S : shp) (v : vl) (p0 : Nat) : Option vl :=
  grd (kin S p0 = some (0, 6)) <| (F_gm_byteAt p0 (gi v p0 22) S v).bind fun x28 => (F_gm_inRange x28 (J 97) (J 122) S v).bind fun x29 => (if x29 = (J 0) then some (v) else lt (si v p0 22 ((gi v p0 22) + (J 1))) fun w30 => i90 w30 p0)
noncomputable def K_gm_advanceToken_90 (N : Nat)  (n : Nat) (S : shp) : vl → Nat → Option vl :=
  Nat.rec (motive := fun _ => vl → Nat → Option vl) (fun _ _ => none) (fun _ i => Y_gm_advanceToken_90 N  i S) n
theorem sY_gm_advanceToken_90 (N : Nat)  (i90 : vl → Nat → Option vl) (S : shp)  (j90 : ∀ (v : vl) (p0 : Nat), SimK B_gm_advanceToken 90 [some (.ref p0), none] [] S v (i90 v p0) (ρpv S)) (v : vl) (p0 : Nat) : SimK B_gm_advanceToken 90 [some (.ref p0), none] [] S v (Y_gm_advanceToken_90 N  i90 S v p0) (ρpv S) := by
  unfold Y_gm_advanceToken_90
  refine sim_grd fun h27 => ?_
  refine sim_seg [(.aload_n 0, 0, 0, 0), (.aload_n 0, 0, 0, 0), (.getfield 165, 6, 22, 0)] [] (q := 95) (L' := [some (.ref p0), none]) (st' := [.int (gi v p0 22), .ref p0]) (v1 := v) (by decide +kernel) rfl ⟨h27, trivial⟩ ?_
  refine sc_ri (pc3 := 98) (cf_V (idx := 168) (ci := 6) [.int (gi v p0 22)] m_gm_byteAt (by decide) ⟨by decide, by decide⟩ (List.mem_of_getElem? (i := 1726) (by decide +kernel)) rfl (Nat.le_of_ble_eq_true rfl) h27 (by decide +kernel) (Nat.le_of_ble_eq_true rfl) rfl) (ok_gm_byteAt p0 (gi v p0 22) S v) rfl (fun x28 => ?_)
  refine sim_seg [(.bipush 97, 0, 0, 97), (.bipush 122, 0, 0, 122)] [] (q := 102) (L' := [some (.ref p0), none]) (st' := [.int (J 122), .int (J 97), .int x28]) (v1 := v) (by decide +kernel) rfl trivial ?_
  refine sc_ri (pc3 := 105) (cf_S (idx := 41) [.int x28, .int (J 97), .int (J 122)] m_gm_inRange ⟨by decide, by decide⟩ (List.mem_of_getElem? (i := 1712) (by decide +kernel)) rfl (Nat.le_of_ble_eq_true rfl) (by decide +kernel) (Nat.le_of_ble_eq_true rfl) rfl) (ok_gm_inRange x28 (J 97) (J 122) S v) rfl (fun x29 => ?_)
  refine sim_eq0 (o := 135) (tg := 240) (f := 108) (by decide +kernel) rfl rfl (fun _ => ?_) (fun _ => ?_)
  · exact sim_vret (by decide +kernel) rfl rfl
  · refine sim_seg [(.aload_n 0, 0, 0, 0), (.dup, 0, 0, 0), (.getfield 165, 6, 22, 0), (.iconst 1, 0, 0, 1), (.iadd, 0, 0, 0), (.putfield 165, 6, 22, 0), (.goto (-28), 0, 0, 0)] [] (q := 90) (L' := [some (.ref p0), none]) (st' := []) (v1 := (si v p0 22 ((gi v p0 22) + (J 1)))) (by decide +kernel) rfl ⟨h27, h27, trivial⟩ ?_
    refine sim_lt (x := (si v p0 22 ((gi v p0 22) + (J 1)))) ?_
    generalize (si v p0 22 ((gi v p0 22) + (J 1))) = w30
    exact j90 w30 p0
theorem sR_gm_advanceToken_90 (N : Nat)  (S : shp)  (n : Nat) : ∀ (v : vl) (p0 : Nat), SimK B_gm_advanceToken 90 [some (.ref p0), none] [] S v (K_gm_advanceToken_90 N  n S v p0) (ρpv S) := by
  induction n with
  | zero => intro v p0; exact sim_none
  | succ k ih => intro v p0; exact sY_gm_advanceToken_90 N   _ S  ih v p0
theorem sK_gm_advanceToken_90 (N : Nat)  (n : Nat) (S : shp) (v : vl) (p0 : Nat) : SimK B_gm_advanceToken 90 [some (.ref p0), none] [] S v (K_gm_advanceToken_90 N  n S v p0) (ρpv S) := sR_gm_advanceToken_90 N   S  n  v p0
noncomputable def Y_gm_advanceToken_0 (N : Nat)  (i0 : vl → Nat → Option vl) (S : shp) (v : vl) (p0 : Nat) : Option vl :=
  grd (kin S p0 = some (0, 6)) <| (F_gm_byteAt p0 (gi v p0 22) S v).bind fun x2 => (if x2 = (J 32) then lt (si v p0 22 ((gi v p0 22) + (J 1))) fun w3 => i0 w3 p0 else (F_gm_byteAt p0 (gi v p0 22) S v).bind fun x4 => (if x4 = (J 10) then lt (si v p0 22 ((gi v p0 22) + (J 1))) fun w5 => i0 w5 p0 else lt (si v p0 23 (gi v p0 22)) fun w6 => (F_gm_byteAt p0 (gi w6 p0 22) S w6).bind fun x7 => lt (si w6 p0 24 (J 0)) fun w8 => (if x7 = (J (-1)) then lt (si w8 p0 25 (J 0)) fun w9 => some (w9) else (F_gm_inRange x7 (J 97) (J 122) S w8).bind fun x10 => (if x10 = (J 0) then (F_gm_inRange x7 (J 48) (J 57) S w8).bind fun x11 => (if x11 = (J 0) then (if x7 = (J 59) then lt (si w8 p0 25 (J 3)) fun w12 => lt (si w12 p0 22 ((gi w12 p0 22) + (J 1))) fun w13 => some (w13) else (if x7 = (J 45) then lt (si w8 p0 25 (J 4)) fun w14 => lt (si w14 p0 22 ((gi w14 p0 22) + (J 1))) fun w15 => some (w15) else lt (si w8 p0 25 (J 5)) fun w16 => lt (si w16 p0 22 ((gi w16 p0 22) + (J 1))) fun w17 => some (w17))) else lt (si w8 p0 25 (J 2)) fun w18 => K_gm_advanceToken_137 N  N S w18 p0) else lt (si w8 p0 25 (J 1)) fun w26 => K_gm_advanceToken_90 N  N S w26 p0))))
noncomputable def K_gm_advanceToken_0 (N : Nat)  (n : Nat) (S : shp) : vl → Nat → Option vl :=
  Nat.rec (motive := fun _ => vl → Nat → Option vl) (fun _ _ => none) (fun _ i => Y_gm_advanceToken_0 N  i S) n
theorem sY_gm_advanceToken_0 (N : Nat)  (i0 : vl → Nat → Option vl) (S : shp)  (j0 : ∀ (v : vl) (p0 : Nat), SimK B_gm_advanceToken 0 [some (.ref p0), none] [] S v (i0 v p0) (ρpv S)) (v : vl) (p0 : Nat) : SimK B_gm_advanceToken 0 [some (.ref p0), none] [] S v (Y_gm_advanceToken_0 N  i0 S v p0) (ρpv S) := by
  unfold Y_gm_advanceToken_0
  refine sim_grd fun h1 => ?_
  refine sim_seg [(.aload_n 0, 0, 0, 0), (.aload_n 0, 0, 0, 0), (.getfield 165, 6, 22, 0)] [] (q := 5) (L' := [some (.ref p0), none]) (st' := [.int (gi v p0 22), .ref p0]) (v1 := v) (by decide +kernel) rfl ⟨h1, trivial⟩ ?_
  refine sc_ri (pc3 := 8) (cf_V (idx := 168) (ci := 6) [.int (gi v p0 22)] m_gm_byteAt (by decide) ⟨by decide, by decide⟩ (List.mem_of_getElem? (i := 1726) (by decide +kernel)) rfl (Nat.le_of_ble_eq_true rfl) h1 (by decide +kernel) (Nat.le_of_ble_eq_true rfl) rfl) (ok_gm_byteAt p0 (gi v p0 22) S v) rfl (fun x2 => ?_)
  refine sim_seg [(.bipush 32, 0, 0, 32)] [] (q := 10) (L' := [some (.ref p0), none]) (st' := [.int (J 32), .int x2]) (v1 := v) (by decide +kernel) rfl trivial ?_
  refine sim_eq (o := 16) (tg := 26) (f := 13) (by decide +kernel) rfl rfl (fun _ => ?_) (fun _ => ?_)
  · refine sim_seg [(.aload_n 0, 0, 0, 0), (.dup, 0, 0, 0), (.getfield 165, 6, 22, 0), (.iconst 1, 0, 0, 1), (.iadd, 0, 0, 0), (.putfield 165, 6, 22, 0), (.goto (-36), 0, 0, 0)] [] (q := 0) (L' := [some (.ref p0), none]) (st' := []) (v1 := (si v p0 22 ((gi v p0 22) + (J 1)))) (by decide +kernel) rfl ⟨h1, h1, trivial⟩ ?_
    refine sim_lt (x := (si v p0 22 ((gi v p0 22) + (J 1)))) ?_
    generalize (si v p0 22 ((gi v p0 22) + (J 1))) = w3
    exact j0 w3 p0
  · refine sim_seg [(.aload_n 0, 0, 0, 0), (.aload_n 0, 0, 0, 0), (.getfield 165, 6, 22, 0)] [] (q := 18) (L' := [some (.ref p0), none]) (st' := [.int (gi v p0 22), .ref p0]) (v1 := v) (by decide +kernel) rfl ⟨h1, trivial⟩ ?_
    refine sc_ri (pc3 := 21) (cf_V (idx := 168) (ci := 6) [.int (gi v p0 22)] m_gm_byteAt (by decide) ⟨by decide, by decide⟩ (List.mem_of_getElem? (i := 1726) (by decide +kernel)) rfl (Nat.le_of_ble_eq_true rfl) h1 (by decide +kernel) (Nat.le_of_ble_eq_true rfl) rfl) (ok_gm_byteAt p0 (gi v p0 22) S v) rfl (fun x4 => ?_)
    refine sim_seg [(.bipush 10, 0, 0, 10)] [] (q := 23) (L' := [some (.ref p0), none]) (st' := [.int (J 10), .int x4]) (v1 := v) (by decide +kernel) rfl trivial ?_
    refine sim_ne (o := 16) (tg := 39) (f := 26) (by decide +kernel) rfl rfl (fun _ => ?_) (fun _ => ?_)
    · refine sim_seg [(.aload_n 0, 0, 0, 0), (.dup, 0, 0, 0), (.getfield 165, 6, 22, 0), (.iconst 1, 0, 0, 1), (.iadd, 0, 0, 0), (.putfield 165, 6, 22, 0), (.goto (-36), 0, 0, 0)] [] (q := 0) (L' := [some (.ref p0), none]) (st' := []) (v1 := (si v p0 22 ((gi v p0 22) + (J 1)))) (by decide +kernel) rfl ⟨h1, h1, trivial⟩ ?_
      refine sim_lt (x := (si v p0 22 ((gi v p0 22) + (J 1)))) ?_
      generalize (si v p0 22 ((gi v p0 22) + (J 1))) = w5
      exact j0 w5 p0
    · refine sim_seg [(.aload_n 0, 0, 0, 0), (.aload_n 0, 0, 0, 0), (.getfield 165, 6, 22, 0), (.putfield 171, 6, 23, 0), (.aload_n 0, 0, 0, 0), (.aload_n 0, 0, 0, 0)] [] (q := 49) (L' := [some (.ref p0), none]) (st' := [.ref p0, .ref p0]) (v1 := (si v p0 23 (gi v p0 22))) (by decide +kernel) rfl ⟨h1, h1, trivial⟩ ?_
      refine sim_lt (x := (si v p0 23 (gi v p0 22))) ?_
      generalize (si v p0 23 (gi v p0 22)) = w6
      refine sim_seg [(.getfield 165, 6, 22, 0)] [] (q := 52) (L' := [some (.ref p0), none]) (st' := [.int (gi w6 p0 22), .ref p0]) (v1 := w6) (by decide +kernel) rfl ⟨h1, trivial⟩ ?_
      refine sc_ri (pc3 := 55) (cf_V (idx := 168) (ci := 6) [.int (gi w6 p0 22)] m_gm_byteAt (by decide) ⟨by decide, by decide⟩ (List.mem_of_getElem? (i := 1726) (by decide +kernel)) rfl (Nat.le_of_ble_eq_true rfl) h1 (by decide +kernel) (Nat.le_of_ble_eq_true rfl) rfl) (ok_gm_byteAt p0 (gi w6 p0 22) S w6) rfl (fun x7 => ?_)
      refine sim_seg [(.istore_n 1, 0, 0, 0)] [] (q := 56) (L' := [some (.ref p0), some (.int x7)]) (st' := []) (v1 := w6) (by decide +kernel) rfl trivial ?_
      refine sim_seg [(.aload_n 0, 0, 0, 0), (.iconst 0, 0, 0, 0), (.putfield 174, 6, 24, 0), (.iload_n 1, 0, 0, 0), (.iconst (-1), 0, 0, (-1))] [] (q := 63) (L' := [some (.ref p0), some (.int x7)]) (st' := [.int (J (-1)), .int x7]) (v1 := (si w6 p0 24 (J 0))) (by decide +kernel) rfl ⟨h1, trivial⟩ ?_
      refine sim_lt (x := (si w6 p0 24 (J 0))) ?_
      generalize (si w6 p0 24 (J 0)) = w8
      refine sim_ne (o := 11) (tg := 74) (f := 66) (by decide +kernel) rfl rfl (fun _ => ?_) (fun _ => ?_)
      · refine sim_seg [(.aload_n 0, 0, 0, 0), (.iconst 0, 0, 0, 0), (.putfield 177, 6, 25, 0), (.goto 169, 0, 0, 0)] [] (q := 240) (L' := [some (.ref p0), some (.int x7)]) (st' := []) (v1 := (si w8 p0 25 (J 0))) (by decide +kernel) rfl ⟨h1, trivial⟩ ?_
        refine sim_lt (x := (si w8 p0 25 (J 0))) ?_
        generalize (si w8 p0 25 (J 0)) = w9
        exact sim_vret (by decide +kernel) rfl rfl
      · refine sim_seg [(.iload_n 1, 0, 0, 0), (.bipush 97, 0, 0, 97), (.bipush 122, 0, 0, 122)] [] (q := 79) (L' := [some (.ref p0), some (.int x7)]) (st' := [.int (J 122), .int (J 97), .int x7]) (v1 := w8) (by decide +kernel) rfl trivial ?_
        refine sc_ri (pc3 := 82) (cf_S (idx := 41) [.int x7, .int (J 97), .int (J 122)] m_gm_inRange ⟨by decide, by decide⟩ (List.mem_of_getElem? (i := 1712) (by decide +kernel)) rfl (Nat.le_of_ble_eq_true rfl) (by decide +kernel) (Nat.le_of_ble_eq_true rfl) rfl) (ok_gm_inRange x7 (J 97) (J 122) S w8) rfl (fun x10 => ?_)
        refine sim_eq0 (o := 39) (tg := 121) (f := 85) (by decide +kernel) rfl rfl (fun _ => ?_) (fun _ => ?_)
        · refine sim_seg [(.iload_n 1, 0, 0, 0), (.bipush 48, 0, 0, 48), (.bipush 57, 0, 0, 57)] [] (q := 126) (L' := [some (.ref p0), some (.int x7)]) (st' := [.int (J 57), .int (J 48), .int x7]) (v1 := w8) (by decide +kernel) rfl trivial ?_
          refine sc_ri (pc3 := 129) (cf_S (idx := 41) [.int x7, .int (J 48), .int (J 57)] m_gm_inRange ⟨by decide, by decide⟩ (List.mem_of_getElem? (i := 1712) (by decide +kernel)) rfl (Nat.le_of_ble_eq_true rfl) (by decide +kernel) (Nat.le_of_ble_eq_true rfl) rfl) (ok_gm_inRange x7 (J 48) (J 57) S w8) rfl (fun x11 => ?_)
          refine sim_eq0 (o := 76) (tg := 205) (f := 132) (by decide +kernel) rfl rfl (fun _ => ?_) (fun _ => ?_)
          · refine sim_seg [(.aload_n 0, 0, 0, 0), (.iload_n 1, 0, 0, 0), (.bipush 59, 0, 0, 59)] [] (q := 209) (L' := [some (.ref p0), some (.int x7)]) (st' := [.int (J 59), .int x7, .ref p0]) (v1 := w8) (by decide +kernel) rfl trivial ?_
            refine sim_ne (o := 7) (tg := 216) (f := 212) (by decide +kernel) rfl rfl (fun _ => ?_) (fun _ => ?_)
            · refine sim_seg [(.iconst 3, 0, 0, 3), (.goto 14, 0, 0, 0), (.putfield 177, 6, 25, 0), (.aload_n 0, 0, 0, 0), (.dup, 0, 0, 0)] [] (q := 232) (L' := [some (.ref p0), some (.int x7)]) (st' := [.ref p0, .ref p0]) (v1 := (si w8 p0 25 (J 3))) (by decide +kernel) rfl ⟨h1, trivial⟩ ?_
              refine sim_lt (x := (si w8 p0 25 (J 3))) ?_
              generalize (si w8 p0 25 (J 3)) = w12
              refine sim_seg [(.getfield 165, 6, 22, 0), (.iconst 1, 0, 0, 1), (.iadd, 0, 0, 0), (.putfield 165, 6, 22, 0)] [] (q := 240) (L' := [some (.ref p0), some (.int x7)]) (st' := []) (v1 := (si w12 p0 22 ((gi w12 p0 22) + (J 1)))) (by decide +kernel) rfl ⟨h1, h1, trivial⟩ ?_
              refine sim_lt (x := (si w12 p0 22 ((gi w12 p0 22) + (J 1)))) ?_
              generalize (si w12 p0 22 ((gi w12 p0 22) + (J 1))) = w13
              exact sim_vret (by decide +kernel) rfl rfl
            · refine sim_seg [(.iload_n 1, 0, 0, 0), (.bipush 45, 0, 0, 45)] [] (q := 219) (L' := [some (.ref p0), some (.int x7)]) (st' := [.int (J 45), .int x7, .ref p0]) (v1 := w8) (by decide +kernel) rfl trivial ?_
              refine sim_ne (o := 7) (tg := 226) (f := 222) (by decide +kernel) rfl rfl (fun _ => ?_) (fun _ => ?_)
              · refine sim_seg [(.iconst 4, 0, 0, 4), (.goto 4, 0, 0, 0), (.putfield 177, 6, 25, 0), (.aload_n 0, 0, 0, 0), (.dup, 0, 0, 0)] [] (q := 232) (L' := [some (.ref p0), some (.int x7)]) (st' := [.ref p0, .ref p0]) (v1 := (si w8 p0 25 (J 4))) (by decide +kernel) rfl ⟨h1, trivial⟩ ?_
                refine sim_lt (x := (si w8 p0 25 (J 4))) ?_
                generalize (si w8 p0 25 (J 4)) = w14
                refine sim_seg [(.getfield 165, 6, 22, 0), (.iconst 1, 0, 0, 1), (.iadd, 0, 0, 0), (.putfield 165, 6, 22, 0)] [] (q := 240) (L' := [some (.ref p0), some (.int x7)]) (st' := []) (v1 := (si w14 p0 22 ((gi w14 p0 22) + (J 1)))) (by decide +kernel) rfl ⟨h1, h1, trivial⟩ ?_
                refine sim_lt (x := (si w14 p0 22 ((gi w14 p0 22) + (J 1)))) ?_
                generalize (si w14 p0 22 ((gi w14 p0 22) + (J 1))) = w15
                exact sim_vret (by decide +kernel) rfl rfl
              · refine sim_seg [(.iconst 5, 0, 0, 5), (.putfield 177, 6, 25, 0), (.aload_n 0, 0, 0, 0), (.dup, 0, 0, 0)] [] (q := 232) (L' := [some (.ref p0), some (.int x7)]) (st' := [.ref p0, .ref p0]) (v1 := (si w8 p0 25 (J 5))) (by decide +kernel) rfl ⟨h1, trivial⟩ ?_
                refine sim_lt (x := (si w8 p0 25 (J 5))) ?_
                generalize (si w8 p0 25 (J 5)) = w16
                refine sim_seg [(.getfield 165, 6, 22, 0), (.iconst 1, 0, 0, 1), (.iadd, 0, 0, 0), (.putfield 165, 6, 22, 0)] [] (q := 240) (L' := [some (.ref p0), some (.int x7)]) (st' := []) (v1 := (si w16 p0 22 ((gi w16 p0 22) + (J 1)))) (by decide +kernel) rfl ⟨h1, h1, trivial⟩ ?_
                refine sim_lt (x := (si w16 p0 22 ((gi w16 p0 22) + (J 1)))) ?_
                generalize (si w16 p0 22 ((gi w16 p0 22) + (J 1))) = w17
                exact sim_vret (by decide +kernel) rfl rfl
          · refine sim_seg [(.aload_n 0, 0, 0, 0), (.iconst 2, 0, 0, 2), (.putfield 177, 6, 25, 0)] [] (q := 137) (L' := [some (.ref p0), some (.int x7)]) (st' := []) (v1 := (si w8 p0 25 (J 2))) (by decide +kernel) rfl ⟨h1, trivial⟩ ?_
            refine sim_lt (x := (si w8 p0 25 (J 2))) ?_
            generalize (si w8 p0 25 (J 2)) = w18
            exact sim_wk (L0 := [some (.ref p0), none]) ⟨rfl, trivial⟩ (sK_gm_advanceToken_137 N N S w18 p0)
        · refine sim_seg [(.aload_n 0, 0, 0, 0), (.iconst 1, 0, 0, 1), (.putfield 177, 6, 25, 0)] [] (q := 90) (L' := [some (.ref p0), some (.int x7)]) (st' := []) (v1 := (si w8 p0 25 (J 1))) (by decide +kernel) rfl ⟨h1, trivial⟩ ?_
          refine sim_lt (x := (si w8 p0 25 (J 1))) ?_
          generalize (si w8 p0 25 (J 1)) = w26
          exact sim_wk (L0 := [some (.ref p0), none]) ⟨rfl, trivial⟩ (sK_gm_advanceToken_90 N N S w26 p0)
theorem sR_gm_advanceToken_0 (N : Nat)  (S : shp)  (n : Nat) : ∀ (v : vl) (p0 : Nat), SimK B_gm_advanceToken 0 [some (.ref p0), none] [] S v (K_gm_advanceToken_0 N  n S v p0) (ρpv S) := by
  induction n with
  | zero => intro v p0; exact sim_none
  | succ k ih => intro v p0; exact sY_gm_advanceToken_0 N   _ S  ih v p0
theorem sK_gm_advanceToken_0 (N : Nat)  (n : Nat) (S : shp) (v : vl) (p0 : Nat) : SimK B_gm_advanceToken 0 [some (.ref p0), none] [] S v (K_gm_advanceToken_0 N  n S v p0) (ρpv S) := sR_gm_advanceToken_0 N   S  n  v p0
noncomputable def F_gm_advanceToken (N : Nat) (a0 : Nat) (S : shp) (v : vl) : Option vl :=
  K_gm_advanceToken_0 N  N S v a0
theorem ok_gm_advanceToken (N : Nat) (a0 : Nat) (S : shp) (v : vl) : SimK B_gm_advanceToken 0 (entB (bN B_gm_advanceToken) [.ref a0]) [] S v (F_gm_advanceToken N a0 S v) (ρpv S) := by
  show SimK B_gm_advanceToken 0 [some (.ref a0), none] [] S v (F_gm_advanceToken N a0 S v) _
  unfold F_gm_advanceToken
  exact sK_gm_advanceToken_0 N N S v a0
def B_gm_copies : bd := (⟨"GateCounterModel", "copies", "([II[III)V"⟩, prog_8_method_6_code, 6, none, [], 6, 0)
theorem m_gm_copies : mS B_gm_copies 5 := ⟨⟨⟨by decide +kernel, Or.inl rfl⟩, rfl, (List.mem_of_getElem? (i := 1721) (by decide +kernel)), by decide +kernel, (List.mem_of_getElem? (i := 104) (by decide +kernel)), ⟨by decide, by decide⟩, by decide⟩, rfl, (by unfold nar; decide +kernel), (List.mem_of_getElem? (i := 1720) (by decide +kernel))⟩
noncomputable def Y_gm_copies_3 (N : Nat)  (i3 : vl → Nat → Int32 → Nat → Int32 → Int32 → Int32 → Option vl) (S : shp) (v : vl) (p0 : Nat) (p1 : Int32) (p2 : Nat) (p3 : Int32) (p4 : Int32) (p5 : Int32) : Option vl :=
  (if p5 < p4 then grd ((kin S p0 = some (1, alen S p0) ∨ kin S p0 = some (11, alen S p0))) <| grd (vp_in (p1 + p5) (alen S p0)) <| grd (kin S p2 = some (1, alen S p2)) <| grd (vp_in (p3 + p5) (alen S p2)) <| lt (si v p2 (Int32.toNatClampNeg (p3 + p5)) (gi v p0 (Int32.toNatClampNeg (p1 + p5)))) fun w5 => i3 w5 p0 p1 p2 p3 p4 (p5 + (J 1)) else some (v))
noncomputable def K_gm_copies_3 (N : Nat)  (n : Nat) (S : shp) : vl → Nat → Int32 → Nat → Int32 → Int32 → Int32 → Option vl :=
  Nat.rec (motive := fun _ => vl → Nat → Int32 → Nat → Int32 → Int32 → Int32 → Option vl) (fun _ _ _ _ _ _ _ => none) (fun _ i => Y_gm_copies_3 N  i S) n
theorem sY_gm_copies_3 (N : Nat)  (i3 : vl → Nat → Int32 → Nat → Int32 → Int32 → Int32 → Option vl) (S : shp)  (j3 : ∀ (v : vl) (p0 : Nat) (p1 : Int32) (p2 : Nat) (p3 : Int32) (p4 : Int32) (p5 : Int32), SimK B_gm_copies 3 [some (.ref p0), some (.int p1), some (.ref p2), some (.int p3), some (.int p4), some (.int p5)] [] S v (i3 v p0 p1 p2 p3 p4 p5) (ρpv S)) (v : vl) (p0 : Nat) (p1 : Int32) (p2 : Nat) (p3 : Int32) (p4 : Int32) (p5 : Int32) : SimK B_gm_copies 3 [some (.ref p0), some (.int p1), some (.ref p2), some (.int p3), some (.int p4), some (.int p5)] [] S v (Y_gm_copies_3 N  i3 S v p0 p1 p2 p3 p4 p5) (ρpv S) := by
  unfold Y_gm_copies_3
  refine sim_seg [(.iload 5, 0, 0, 0), (.iload 4, 0, 0, 0)] [] (q := 7) (L' := [some (.ref p0), some (.int p1), some (.ref p2), some (.int p3), some (.int p4), some (.int p5)]) (st' := [.int p4, .int p5]) (v1 := v) (by decide +kernel) rfl trivial ?_
  refine sim_ge (o := 21) (tg := 28) (f := 10) (by decide +kernel) rfl rfl (fun _ => ?_) (fun _ => ?_)
  · refine sim_grd fun h1 => ?_
    refine sim_grd fun h2 => ?_
    refine sim_grd fun h3 => ?_
    refine sim_grd fun h4 => ?_
    refine sim_seg [(.aload_n 2, 0, 0, 0), (.iload_n 3, 0, 0, 0), (.iload 5, 0, 0, 0), (.iadd, 0, 0, 0), (.aload_n 0, 0, 0, 0), (.iload_n 1, 0, 0, 0), (.iload 5, 0, 0, 0), (.iadd, 0, 0, 0), (.iaload, 0, 0, 0), (.iastore, 0, 0, 0), (.iinc 5 1, 0, 0, 1)] [] (q := 25) (L' := [some (.ref p0), some (.int p1), some (.ref p2), some (.int p3), some (.int p4), some (.int (p5 + (J 1)))]) (st' := []) (v1 := (si v p2 (Int32.toNatClampNeg (p3 + p5)) (gi v p0 (Int32.toNatClampNeg (p1 + p5))))) (by decide +kernel) rfl ⟨⟨h1, h2⟩, ⟨h3, h4⟩, trivial⟩ ?_
    refine sim_lt (x := (si v p2 (Int32.toNatClampNeg (p3 + p5)) (gi v p0 (Int32.toNatClampNeg (p1 + p5))))) ?_
    generalize (si v p2 (Int32.toNatClampNeg (p3 + p5)) (gi v p0 (Int32.toNatClampNeg (p1 + p5)))) = w5
    refine sim_seg [(.goto (-22), 0, 0, 0)] [] (q := 3) (L' := [some (.ref p0), some (.int p1), some (.ref p2), some (.int p3), some (.int p4), some (.int (p5 + (J 1)))]) (st' := []) (v1 := w5) (by decide +kernel) rfl trivial ?_
    exact j3 w5 p0 p1 p2 p3 p4 (p5 + (J 1))
  · exact sim_vret (by decide +kernel) rfl rfl
theorem sR_gm_copies_3 (N : Nat)  (S : shp)  (n : Nat) : ∀ (v : vl) (p0 : Nat) (p1 : Int32) (p2 : Nat) (p3 : Int32) (p4 : Int32) (p5 : Int32), SimK B_gm_copies 3 [some (.ref p0), some (.int p1), some (.ref p2), some (.int p3), some (.int p4), some (.int p5)] [] S v (K_gm_copies_3 N  n S v p0 p1 p2 p3 p4 p5) (ρpv S) := by
  induction n with
  | zero => intro v p0 p1 p2 p3 p4 p5; exact sim_none
  | succ k ih => intro v p0 p1 p2 p3 p4 p5; exact sY_gm_copies_3 N   _ S  ih v p0 p1 p2 p3 p4 p5
theorem sK_gm_copies_3 (N : Nat)  (n : Nat) (S : shp) (v : vl) (p0 : Nat) (p1 : Int32) (p2 : Nat) (p3 : Int32) (p4 : Int32) (p5 : Int32) : SimK B_gm_copies 3 [some (.ref p0), some (.int p1), some (.ref p2), some (.int p3), some (.int p4), some (.int p5)] [] S v (K_gm_copies_3 N  n S v p0 p1 p2 p3 p4 p5) (ρpv S) := sR_gm_copies_3 N   S  n  v p0 p1 p2 p3 p4 p5
noncomputable def F_gm_copies (N : Nat) (a0 : Nat) (b1 : Int32) (a2 : Nat) (b3 : Int32) (b4 : Int32) (S : shp) (v : vl) : Option vl :=
  K_gm_copies_3 N  N S v a0 b1 a2 b3 b4 (J 0)
theorem ok_gm_copies (N : Nat) (a0 : Nat) (b1 : Int32) (a2 : Nat) (b3 : Int32) (b4 : Int32) (S : shp) (v : vl) : SimK B_gm_copies 0 (entB (bN B_gm_copies) [.ref a0, .int b1, .ref a2, .int b3, .int b4]) [] S v (F_gm_copies N a0 b1 a2 b3 b4 S v) (ρpv S) := by
  show SimK B_gm_copies 0 [some (.ref a0), some (.int b1), some (.ref a2), some (.int b3), some (.int b4), none] [] S v (F_gm_copies N a0 b1 a2 b3 b4 S v) _
  unfold F_gm_copies
  refine sim_seg [(.iconst 0, 0, 0, 0), (.istore 5, 0, 0, 0)] [] (q := 3) (L' := [some (.ref a0), some (.int b1), some (.ref a2), some (.int b3), some (.int b4), some (.int (J 0))]) (st' := []) (v1 := v) (by decide +kernel) rfl trivial ?_
  exact sK_gm_copies_3 N N S v a0 b1 a2 b3 b4 (J 0)
def B_gm_isWord : bd := (⟨"GateCounterModel", "isWord", "(Ljava/lang/String;)Z"⟩, prog_8_method_42_code, 3, (some .boolean), [], 6, 4)
theorem m_gm_isWord : mV B_gm_isWord 6 1 := ⟨⟨⟨by decide +kernel, Or.inl rfl⟩, rfl, (List.mem_of_getElem? (i := 1746) (by decide +kernel)), by decide +kernel, (List.mem_of_getElem? (i := 104) (by decide +kernel)), ⟨by decide, by decide⟩, by decide⟩, rfl, (by unfold nar; decide +kernel), (List.mem_of_getElem? (i := 1745) (by decide +kernel)), rfl, (List.mem_of_getElem? (i := 39) (by decide +kernel))⟩
noncomputable def Y_gm_isWord_28 (N : Nat)  (i28 : Nat → Nat → Int32 → Option Int32) (S : shp) (v : vl)  (p0 : Nat) (p1 : Nat) (p2 : Int32) : Option Int32 :=
  grd (kin S p1 = some (20, 0)) <| (F_js_length p1 S v).bind fun x5 => (if p2 < x5 then grd (kin S p0 = some (0, 6)) <| (gr S p0 16).bind fun r7 => grd (kin S r7 = some (1, 500)) <| grd (vp_in ((gi v p0 23) + p2) (alen S r7)) <| (F_js_charAt p1 p2 S v).bind fun x11 => (if (gi v r7 (Int32.toNatClampNeg ((gi v p0 23) + p2))) = x11 then i28 p0 p1 (p2 + (J 1)) else some ((J 0))) else some ((J 1)))
noncomputable def K_gm_isWord_28 (N : Nat)  (n : Nat) (S : shp) (v : vl) : Nat → Nat → Int32 → Option Int32 :=
  Nat.rec (motive := fun _ => Nat → Nat → Int32 → Option Int32) (fun _ _ _ => none) (fun _ i => Y_gm_isWord_28 N  i S v) n
theorem sY_gm_isWord_28 (N : Nat)  (i28 : Nat → Nat → Int32 → Option Int32) (S : shp) (v : vl)  (j28 : ∀ (p0 : Nat) (p1 : Nat) (p2 : Int32), SimK B_gm_isWord 28 [some (.ref p0), some (.ref p1), some (.int p2)] [] S v (i28 p0 p1 p2) (ρri S v))  (p0 : Nat) (p1 : Nat) (p2 : Int32) : SimK B_gm_isWord 28 [some (.ref p0), some (.ref p1), some (.int p2)] [] S v (Y_gm_isWord_28 N  i28 S v  p0 p1 p2) (ρri S v) := by
  unfold Y_gm_isWord_28
  refine sim_seg [(.iload_n 2, 0, 0, 0), (.aload_n 1, 0, 0, 0)] [] (q := 30) (L' := [some (.ref p0), some (.ref p1), some (.int p2)]) (st' := [.ref p1, .int p2]) (v1 := v) (by decide +kernel) rfl trivial ?_
  refine sim_grd fun h4 => ?_
  refine sc_ri (pc3 := 33) (cf_T (idx := 186) [] m_js_length ⟨by decide, by decide⟩ (List.mem_of_getElem? (i := 1747) (by decide +kernel)) rfl (Nat.le_of_ble_eq_true rfl) h4 (by decide +kernel) (Nat.le_of_ble_eq_true rfl) rfl) (ok_js_length p1 S v) rfl (fun x5 => ?_)
  refine sim_ge (o := 30) (tg := 63) (f := 36) (by decide +kernel) rfl rfl (fun _ => ?_) (fun _ => ?_)
  · refine sim_grd fun h6 => ?_
    refine sim_bind fun r7 h8 => ?_
    refine sim_grd fun h9 => ?_
    refine sim_grd fun h10 => ?_
    refine sim_seg [(.aload_n 0, 0, 0, 0), (.getfield 25, 6, 16, 0), (.aload_n 0, 0, 0, 0), (.getfield 171, 6, 23, 0), (.iload_n 2, 0, 0, 0), (.iadd, 0, 0, 0), (.iaload, 0, 0, 0), (.aload_n 1, 0, 0, 0), (.iload_n 2, 0, 0, 0)] [r7] (q := 49) (L' := [some (.ref p0), some (.ref p1), some (.int p2)]) (st' := [.int p2, .ref p1, .int (gi v r7 (Int32.toNatClampNeg ((gi v p0 23) + p2)))]) (v1 := v) (by decide +kernel) rfl ⟨⟨h6, h8⟩, h6, ⟨(Or.inl (kin_alen h9)), h10⟩, trivial⟩ ?_
    refine sc_ri (pc3 := 52) (cf_T (idx := 191) [.int p2] m_js_charAt ⟨by decide, by decide⟩ (List.mem_of_getElem? (i := 1748) (by decide +kernel)) rfl (Nat.le_of_ble_eq_true rfl) h4 (by decide +kernel) (Nat.le_of_ble_eq_true rfl) rfl) (ok_js_charAt p1 p2 S v) rfl (fun x11 => ?_)
    refine sim_eq (o := 5) (tg := 57) (f := 55) (by decide +kernel) rfl rfl (fun _ => ?_) (fun _ => ?_)
    · refine sim_seg [(.iinc 2 1, 0, 0, 1)] [] (q := 60) (L' := [some (.ref p0), some (.ref p1), some (.int (p2 + (J 1)))]) (st' := []) (v1 := v) (by decide +kernel) rfl trivial ?_
      refine sim_seg [(.goto (-32), 0, 0, 0)] [] (q := 28) (L' := [some (.ref p0), some (.ref p1), some (.int (p2 + (J 1)))]) (st' := []) (v1 := v) (by decide +kernel) rfl trivial ?_
      exact j28 p0 p1 (p2 + (J 1))
    · refine sim_seg [(.iconst 0, 0, 0, 0)] [] (q := 56) (L' := [some (.ref p0), some (.ref p1), some (.int p2)]) (st' := [.int (J 0)]) (v1 := v) (by decide +kernel) rfl trivial ?_
      exact sim_iret (by decide +kernel) rfl (by decide) rfl
  · refine sim_seg [(.iconst 1, 0, 0, 1)] [] (q := 64) (L' := [some (.ref p0), some (.ref p1), some (.int p2)]) (st' := [.int (J 1)]) (v1 := v) (by decide +kernel) rfl trivial ?_
    exact sim_iret (by decide +kernel) rfl (by decide) rfl
theorem sR_gm_isWord_28 (N : Nat)  (S : shp) (v : vl)  (n : Nat) : ∀  (p0 : Nat) (p1 : Nat) (p2 : Int32), SimK B_gm_isWord 28 [some (.ref p0), some (.ref p1), some (.int p2)] [] S v (K_gm_isWord_28 N  n S v  p0 p1 p2) (ρri S v) := by
  induction n with
  | zero => intro p0 p1 p2; exact sim_none
  | succ k ih => intro p0 p1 p2; exact sY_gm_isWord_28 N   _ S v  ih p0 p1 p2
theorem sK_gm_isWord_28 (N : Nat)  (n : Nat) (S : shp) (v : vl) (p0 : Nat) (p1 : Nat) (p2 : Int32) : SimK B_gm_isWord 28 [some (.ref p0), some (.ref p1), some (.int p2)] [] S v (K_gm_isWord_28 N  n S v  p0 p1 p2) (ρri S v) := sR_gm_isWord_28 N   S v  n  p0 p1 p2
noncomputable def F_gm_isWord (N : Nat) (a0 : Nat) (a1 : Nat) (S : shp) (v : vl) : Option Int32 :=
  grd (kin S a0 = some (0, 6)) <| (if (gi v a0 25) = (J 1) then grd (kin S a1 = some (20, 0)) <| (F_js_length a1 S v).bind fun x3 => (if ((gi v a0 22) - (gi v a0 23)) = x3 then K_gm_isWord_28 N  N S v a0 a1 (J 0) else some ((J 0))) else some ((J 0)))
theorem ok_gm_isWord (N : Nat) (a0 : Nat) (a1 : Nat) (S : shp) (v : vl) : SimK B_gm_isWord 0 (entB (bN B_gm_isWord) [.ref a0, .ref a1]) [] S v (F_gm_isWord N a0 a1 S v) (ρri S v) := by
  show SimK B_gm_isWord 0 [some (.ref a0), some (.ref a1), none] [] S v (F_gm_isWord N a0 a1 S v) _
  unfold F_gm_isWord
  refine sim_grd fun h1 => ?_
  refine sim_seg [(.aload_n 0, 0, 0, 0), (.getfield 177, 6, 25, 0), (.iconst 1, 0, 0, 1)] [] (q := 5) (L' := [some (.ref a0), some (.ref a1), none]) (st' := [.int (J 1), .int (gi v a0 25)]) (v1 := v) (by decide +kernel) rfl ⟨h1, trivial⟩ ?_
  refine sim_ne (o := 19) (tg := 24) (f := 8) (by decide +kernel) rfl rfl (fun _ => ?_) (fun _ => ?_)
  · refine sim_seg [(.aload_n 0, 0, 0, 0), (.getfield 165, 6, 22, 0), (.aload_n 0, 0, 0, 0), (.getfield 171, 6, 23, 0), (.isub, 0, 0, 0), (.aload_n 1, 0, 0, 0)] [] (q := 18) (L' := [some (.ref a0), some (.ref a1), none]) (st' := [.ref a1, .int ((gi v a0 22) - (gi v a0 23))]) (v1 := v) (by decide +kernel) rfl ⟨h1, h1, trivial⟩ ?_
    refine sim_grd fun h2 => ?_
    refine sc_ri (pc3 := 21) (cf_T (idx := 186) [] m_js_length ⟨by decide, by decide⟩ (List.mem_of_getElem? (i := 1747) (by decide +kernel)) rfl (Nat.le_of_ble_eq_true rfl) h2 (by decide +kernel) (Nat.le_of_ble_eq_true rfl) rfl) (ok_js_length a1 S v) rfl (fun x3 => ?_)
    refine sim_eq (o := 5) (tg := 26) (f := 24) (by decide +kernel) rfl rfl (fun _ => ?_) (fun _ => ?_)
    · refine sim_seg [(.iconst 0, 0, 0, 0), (.istore_n 2, 0, 0, 0)] [] (q := 28) (L' := [some (.ref a0), some (.ref a1), some (.int (J 0))]) (st' := []) (v1 := v) (by decide +kernel) rfl trivial ?_
      exact sK_gm_isWord_28 N N S v a0 a1 (J 0)
    · refine sim_seg [(.iconst 0, 0, 0, 0)] [] (q := 25) (L' := [some (.ref a0), some (.ref a1), none]) (st' := [.int (J 0)]) (v1 := v) (by decide +kernel) rfl trivial ?_
      exact sim_iret (by decide +kernel) rfl (by decide) rfl
  · refine sim_seg [(.iconst 0, 0, 0, 0)] [] (q := 25) (L' := [some (.ref a0), some (.ref a1), none]) (st' := [.int (J 0)]) (v1 := v) (by decide +kernel) rfl trivial ?_
    exact sim_iret (by decide +kernel) rfl (by decide) rfl
def B_gm_accepts : bd := (⟨"GateCounterModel", "accepts", "(Ljava/lang/String;)Z"⟩, prog_8_method_43_code, 3, (some .boolean), [], 6, 5)
theorem m_gm_accepts : mV B_gm_accepts 6 1 := ⟨⟨⟨by decide +kernel, Or.inl rfl⟩, rfl, (List.mem_of_getElem? (i := 1742) (by decide +kernel)), by decide +kernel, (List.mem_of_getElem? (i := 104) (by decide +kernel)), ⟨by decide, by decide⟩, by decide⟩, rfl, (by unfold nar; decide +kernel), (List.mem_of_getElem? (i := 1741) (by decide +kernel)), rfl, (List.mem_of_getElem? (i := 38) (by decide +kernel))⟩
noncomputable def F_gm_accepts (N : Nat) (a0 : Nat) (a1 : Nat) (S : shp) (v : vl) : Option (Int32 × vl) :=
  grd (kin S a0 = some (0, 6)) <| (F_gm_isWord N a0 a1 S v).bind fun x2 => (if x2 = (J 0) then grd (narrow .boolean (.int x2) = .int x2) <| some ((x2, v)) else (F_gm_advanceToken N a0 S v).bind fun w4 => grd (narrow .boolean (.int x2) = .int x2) <| some ((x2, w4)))
theorem ok_gm_accepts (N : Nat) (a0 : Nat) (a1 : Nat) (S : shp) (v : vl) : SimK B_gm_accepts 0 (entB (bN B_gm_accepts) [.ref a0, .ref a1]) [] S v (F_gm_accepts N a0 a1 S v) (ρpi S) := by
  show SimK B_gm_accepts 0 [some (.ref a0), some (.ref a1), none] [] S v (F_gm_accepts N a0 a1 S v) _
  unfold F_gm_accepts
  refine sim_seg [(.aload_n 0, 0, 0, 0), (.aload_n 1, 0, 0, 0)] [] (q := 2) (L' := [some (.ref a0), some (.ref a1), none]) (st' := [.ref a1, .ref a0]) (v1 := v) (by decide +kernel) rfl trivial ?_
  refine sim_grd fun h1 => ?_
  refine sc_ri (pc3 := 5) (cf_V (idx := 195) (ci := 6) [.ref a1] m_gm_isWord (by decide) ⟨by decide, by decide⟩ (List.mem_of_getElem? (i := 1743) (by decide +kernel)) rfl (Nat.le_of_ble_eq_true rfl) h1 (by decide +kernel) (Nat.le_of_ble_eq_true rfl) rfl) (ok_gm_isWord N a0 a1 S v) rfl (fun x2 => ?_)
  refine sim_seg [(.istore_n 2, 0, 0, 0)] [] (q := 6) (L' := [some (.ref a0), some (.ref a1), some (.int x2)]) (st' := []) (v1 := v) (by decide +kernel) rfl trivial ?_
  refine sim_seg [(.iload_n 2, 0, 0, 0)] [] (q := 7) (L' := [some (.ref a0), some (.ref a1), some (.int x2)]) (st' := [.int x2]) (v1 := v) (by decide +kernel) rfl trivial ?_
  refine sim_eq0 (o := 7) (tg := 14) (f := 10) (by decide +kernel) rfl rfl (fun _ => ?_) (fun _ => ?_)
  · refine sim_seg [(.iload_n 2, 0, 0, 0)] [] (q := 15) (L' := [some (.ref a0), some (.ref a1), some (.int x2)]) (st' := [.int x2]) (v1 := v) (by decide +kernel) rfl trivial ?_
    refine sim_grd fun h3 => ?_
    exact sim_iret (by decide +kernel) rfl h3 rfl
  · refine sim_seg [(.aload_n 0, 0, 0, 0)] [] (q := 11) (L' := [some (.ref a0), some (.ref a1), some (.int x2)]) (st' := [.ref a0]) (v1 := v) (by decide +kernel) rfl trivial ?_
    refine sc_pv (pc3 := 14) (cf_V (idx := 199) (ci := 6) [] m_gm_advanceToken (by decide) ⟨by decide, by decide⟩ (List.mem_of_getElem? (i := 1722) (by decide +kernel)) rfl (Nat.le_of_ble_eq_true rfl) h1 (by decide +kernel) (Nat.le_of_ble_eq_true rfl) rfl) (ok_gm_advanceToken N a0 S v) rfl (fun w4 => ?_)
    refine sim_seg [(.iload_n 2, 0, 0, 0)] [] (q := 15) (L' := [some (.ref a0), some (.ref a1), some (.int x2)]) (st' := [.int x2]) (v1 := w4) (by decide +kernel) rfl trivial ?_
    refine sim_grd fun h5 => ?_
    exact sim_iret (by decide +kernel) rfl h5 rfl
def B_gm_failsAt : bd := (⟨"GateCounterModel", "failsAt", "(I)Z"⟩, prog_8_method_41_code, 2, (some .boolean), [], 6, 0)
theorem m_gm_failsAt : mV B_gm_failsAt 6 1 := ⟨⟨⟨by decide +kernel, Or.inl rfl⟩, rfl, (List.mem_of_getElem? (i := 1752) (by decide +kernel)), by decide +kernel, (List.mem_of_getElem? (i := 104) (by decide +kernel)), ⟨by decide, by decide⟩, by decide⟩, rfl, (by unfold nar; decide +kernel), (List.mem_of_getElem? (i := 1751) (by decide +kernel)), rfl, (List.mem_of_getElem? (i := 40) (by decide +kernel))⟩
noncomputable def F_gm_failsAt (a0 : Nat) (b1 : Int32) (S : shp) (v : vl) : Option (Int32 × vl) :=
  grd (kin S a0 = some (0, 6)) <| (if (gi v a0 20) = (J 0) then lt (si v a0 20 b1) fun w2 => lt (si w2 a0 21 (gi w2 a0 23)) fun w3 => some (((J 0), w3)) else some (((J 0), v)))
theorem ok_gm_failsAt (a0 : Nat) (b1 : Int32) (S : shp) (v : vl) : SimK B_gm_failsAt 0 (entB (bN B_gm_failsAt) [.ref a0, .int b1]) [] S v (F_gm_failsAt a0 b1 S v) (ρpi S) := by
  show SimK B_gm_failsAt 0 [some (.ref a0), some (.int b1)] [] S v (F_gm_failsAt a0 b1 S v) _
  unfold F_gm_failsAt
  refine sim_grd fun h1 => ?_
  refine sim_seg [(.aload_n 0, 0, 0, 0), (.getfield 180, 6, 20, 0)] [] (q := 4) (L' := [some (.ref a0), some (.int b1)]) (st' := [.int (gi v a0 20)]) (v1 := v) (by decide +kernel) rfl ⟨h1, trivial⟩ ?_
  refine sim_ne0 (o := 16) (tg := 20) (f := 7) (by decide +kernel) rfl rfl (fun _ => ?_) (fun _ => ?_)
  · refine sim_seg [(.aload_n 0, 0, 0, 0), (.iload_n 1, 0, 0, 0), (.putfield 180, 6, 20, 0), (.aload_n 0, 0, 0, 0), (.aload_n 0, 0, 0, 0)] [] (q := 14) (L' := [some (.ref a0), some (.int b1)]) (st' := [.ref a0, .ref a0]) (v1 := (si v a0 20 b1)) (by decide +kernel) rfl ⟨h1, trivial⟩ ?_
    refine sim_lt (x := (si v a0 20 b1)) ?_
    generalize (si v a0 20 b1) = w2
    refine sim_seg [(.getfield 171, 6, 23, 0), (.putfield 183, 6, 21, 0), (.iconst 0, 0, 0, 0)] [] (q := 21) (L' := [some (.ref a0), some (.int b1)]) (st' := [.int (J 0)]) (v1 := (si w2 a0 21 (gi w2 a0 23))) (by decide +kernel) rfl ⟨h1, h1, trivial⟩ ?_
    refine sim_lt (x := (si w2 a0 21 (gi w2 a0 23))) ?_
    generalize (si w2 a0 21 (gi w2 a0 23)) = w3
    exact sim_iret (by decide +kernel) rfl (by decide) rfl
  · refine sim_seg [(.iconst 0, 0, 0, 0)] [] (q := 21) (L' := [some (.ref a0), some (.int b1)]) (st' := [.int (J 0)]) (v1 := v) (by decide +kernel) rfl trivial ?_
    exact sim_iret (by decide +kernel) rfl (by decide) rfl
def B_gm_sees : bd := (⟨"GateCounterModel", "sees", "(II)Z"⟩, prog_8_method_44_code, 3, (some .boolean), [], 6, 1)
theorem m_gm_sees : mV B_gm_sees 6 2 := ⟨⟨⟨by decide +kernel, Or.inl rfl⟩, rfl, (List.mem_of_getElem? (i := 1760) (by decide +kernel)), by decide +kernel, (List.mem_of_getElem? (i := 104) (by decide +kernel)), ⟨by decide, by decide⟩, by decide⟩, rfl, (by unfold nar; decide +kernel), (List.mem_of_getElem? (i := 1759) (by decide +kernel)), rfl, (List.mem_of_getElem? (i := 42) (by decide +kernel))⟩
noncomputable def F_gm_sees (a0 : Nat) (b1 : Int32) (b2 : Int32) (S : shp) (v : vl) : Option (Int32 × vl) :=
  grd (kin S a0 = some (0, 6)) <| (if (gi v a0 25) = (J 2) then (if (J 6) < ((gi v a0 22) - (gi v a0 23)) then (F_gm_failsAt a0 (J 1) S v).bind fun (x2, w3) => grd (narrow .boolean (.int x2) = .int x2) <| some ((x2, w3)) else (F_gm_inRange (gi v a0 24) b1 b2 S v).bind fun x5 => (if x5 = (J 0) then (F_gm_failsAt a0 (J 2) S v).bind fun (x6, w7) => grd (narrow .boolean (.int x6) = .int x6) <| some ((x6, w7)) else lt (si v a0 26 (gi v a0 24)) fun w9 => some (((J 1), w9)))) else (F_gm_failsAt a0 (J 1) S v).bind fun (x10, w11) => grd (narrow .boolean (.int x10) = .int x10) <| some ((x10, w11)))
theorem ok_gm_sees (a0 : Nat) (b1 : Int32) (b2 : Int32) (S : shp) (v : vl) : SimK B_gm_sees 0 (entB (bN B_gm_sees) [.ref a0, .int b1, .int b2]) [] S v (F_gm_sees a0 b1 b2 S v) (ρpi S) := by
  show SimK B_gm_sees 0 [some (.ref a0), some (.int b1), some (.int b2)] [] S v (F_gm_sees a0 b1 b2 S v) _
  unfold F_gm_sees
  refine sim_grd fun h1 => ?_
  refine sim_seg [(.aload_n 0, 0, 0, 0), (.getfield 177, 6, 25, 0), (.iconst 2, 0, 0, 2)] [] (q := 5) (L' := [some (.ref a0), some (.int b1), some (.int b2)]) (st' := [.int (J 2), .int (gi v a0 25)]) (v1 := v) (by decide +kernel) rfl ⟨h1, trivial⟩ ?_
  refine sim_ne (o := 17) (tg := 22) (f := 8) (by decide +kernel) rfl rfl (fun _ => ?_) (fun _ => ?_)
  · refine sim_seg [(.aload_n 0, 0, 0, 0), (.getfield 165, 6, 22, 0), (.aload_n 0, 0, 0, 0), (.getfield 171, 6, 23, 0), (.isub, 0, 0, 0), (.bipush 6, 0, 0, 6)] [] (q := 19) (L' := [some (.ref a0), some (.int b1), some (.int b2)]) (st' := [.int (J 6), .int ((gi v a0 22) - (gi v a0 23))]) (v1 := v) (by decide +kernel) rfl ⟨h1, h1, trivial⟩ ?_
    refine sim_le (o := 9) (tg := 28) (f := 22) (by decide +kernel) rfl rfl (fun _ => ?_) (fun _ => ?_)
    · refine sim_seg [(.aload_n 0, 0, 0, 0), (.iconst 1, 0, 0, 1)] [] (q := 24) (L' := [some (.ref a0), some (.int b1), some (.int b2)]) (st' := [.int (J 1), .ref a0]) (v1 := v) (by decide +kernel) rfl trivial ?_
      refine sc_pi (pc3 := 27) (cf_V (idx := 202) (ci := 6) [.int (J 1)] m_gm_failsAt (by decide) ⟨by decide, by decide⟩ (List.mem_of_getElem? (i := 1749) (by decide +kernel)) rfl (Nat.le_of_ble_eq_true rfl) h1 (by decide +kernel) (Nat.le_of_ble_eq_true rfl) rfl) (ok_gm_failsAt a0 (J 1) S v) rfl (fun x2 w3 => ?_)
      refine sim_grd fun h4 => ?_
      exact sim_iret (by decide +kernel) rfl h4 rfl
    · refine sim_seg [(.aload_n 0, 0, 0, 0), (.getfield 174, 6, 24, 0), (.iload_n 1, 0, 0, 0), (.iload_n 2, 0, 0, 0)] [] (q := 34) (L' := [some (.ref a0), some (.int b1), some (.int b2)]) (st' := [.int b2, .int b1, .int (gi v a0 24)]) (v1 := v) (by decide +kernel) rfl ⟨h1, trivial⟩ ?_
      refine sc_ri (pc3 := 37) (cf_S (idx := 41) [.int (gi v a0 24), .int b1, .int b2] m_gm_inRange ⟨by decide, by decide⟩ (List.mem_of_getElem? (i := 1712) (by decide +kernel)) rfl (Nat.le_of_ble_eq_true rfl) (by decide +kernel) (Nat.le_of_ble_eq_true rfl) rfl) (ok_gm_inRange (gi v a0 24) b1 b2 S v) rfl (fun x5 => ?_)
      refine sim_ne0 (o := 9) (tg := 46) (f := 40) (by decide +kernel) rfl rfl (fun _ => ?_) (fun _ => ?_)
      · refine sim_seg [(.aload_n 0, 0, 0, 0), (.iconst 2, 0, 0, 2)] [] (q := 42) (L' := [some (.ref a0), some (.int b1), some (.int b2)]) (st' := [.int (J 2), .ref a0]) (v1 := v) (by decide +kernel) rfl trivial ?_
        refine sc_pi (pc3 := 45) (cf_V (idx := 202) (ci := 6) [.int (J 2)] m_gm_failsAt (by decide) ⟨by decide, by decide⟩ (List.mem_of_getElem? (i := 1749) (by decide +kernel)) rfl (Nat.le_of_ble_eq_true rfl) h1 (by decide +kernel) (Nat.le_of_ble_eq_true rfl) rfl) (ok_gm_failsAt a0 (J 2) S v) rfl (fun x6 w7 => ?_)
        refine sim_grd fun h8 => ?_
        exact sim_iret (by decide +kernel) rfl h8 rfl
      · refine sim_seg [(.aload_n 0, 0, 0, 0), (.aload_n 0, 0, 0, 0), (.getfield 174, 6, 24, 0), (.putfield 205, 6, 26, 0), (.iconst 1, 0, 0, 1)] [] (q := 55) (L' := [some (.ref a0), some (.int b1), some (.int b2)]) (st' := [.int (J 1)]) (v1 := (si v a0 26 (gi v a0 24))) (by decide +kernel) rfl ⟨h1, h1, trivial⟩ ?_
        refine sim_lt (x := (si v a0 26 (gi v a0 24))) ?_
        generalize (si v a0 26 (gi v a0 24)) = w9
        exact sim_iret (by decide +kernel) rfl (by decide) rfl
  · refine sim_seg [(.aload_n 0, 0, 0, 0), (.iconst 1, 0, 0, 1)] [] (q := 24) (L' := [some (.ref a0), some (.int b1), some (.int b2)]) (st' := [.int (J 1), .ref a0]) (v1 := v) (by decide +kernel) rfl trivial ?_
    refine sc_pi (pc3 := 27) (cf_V (idx := 202) (ci := 6) [.int (J 1)] m_gm_failsAt (by decide) ⟨by decide, by decide⟩ (List.mem_of_getElem? (i := 1749) (by decide +kernel)) rfl (Nat.le_of_ble_eq_true rfl) h1 (by decide +kernel) (Nat.le_of_ble_eq_true rfl) rfl) (ok_gm_failsAt a0 (J 1) S v) rfl (fun x10 w11 => ?_)
    refine sim_grd fun h12 => ?_
    exact sim_iret (by decide +kernel) rfl h12 rfl
def B_gm_reads : bd := (⟨"GateCounterModel", "reads", "(II)Z"⟩, prog_8_method_45_code, 3, (some .boolean), [], 6, 2)
theorem m_gm_reads : mV B_gm_reads 6 2 := ⟨⟨⟨by decide +kernel, Or.inl rfl⟩, rfl, (List.mem_of_getElem? (i := 1756) (by decide +kernel)), by decide +kernel, (List.mem_of_getElem? (i := 104) (by decide +kernel)), ⟨by decide, by decide⟩, by decide⟩, rfl, (by unfold nar; decide +kernel), (List.mem_of_getElem? (i := 1755) (by decide +kernel)), rfl, (List.mem_of_getElem? (i := 41) (by decide +kernel))⟩
noncomputable def F_gm_reads (N : Nat) (a0 : Nat) (b1 : Int32) (b2 : Int32) (S : shp) (v : vl) : Option (Int32 × vl) :=
  grd (kin S a0 = some (0, 6)) <| (F_gm_sees a0 b1 b2 S v).bind fun (x2, w3) => (if x2 = (J 0) then some (((J 0), w3)) else (F_gm_advanceToken N a0 S w3).bind fun w4 => some (((J 1), w4)))
theorem ok_gm_reads (N : Nat) (a0 : Nat) (b1 : Int32) (b2 : Int32) (S : shp) (v : vl) : SimK B_gm_reads 0 (entB (bN B_gm_reads) [.ref a0, .int b1, .int b2]) [] S v (F_gm_reads N a0 b1 b2 S v) (ρpi S) := by
  show SimK B_gm_reads 0 [some (.ref a0), some (.int b1), some (.int b2)] [] S v (F_gm_reads N a0 b1 b2 S v) _
  unfold F_gm_reads
  refine sim_seg [(.aload_n 0, 0, 0, 0), (.iload_n 1, 0, 0, 0), (.iload_n 2, 0, 0, 0)] [] (q := 3) (L' := [some (.ref a0), some (.int b1), some (.int b2)]) (st' := [.int b2, .int b1, .ref a0]) (v1 := v) (by decide +kernel) rfl trivial ?_
  refine sim_grd fun h1 => ?_
  refine sc_pi (pc3 := 6) (cf_V (idx := 208) (ci := 6) [.int b1, .int b2] m_gm_sees (by decide) ⟨by decide, by decide⟩ (List.mem_of_getElem? (i := 1757) (by decide +kernel)) rfl (Nat.le_of_ble_eq_true rfl) h1 (by decide +kernel) (Nat.le_of_ble_eq_true rfl) rfl) (ok_gm_sees a0 b1 b2 S v) rfl (fun x2 w3 => ?_)
  refine sim_ne0 (o := 5) (tg := 11) (f := 9) (by decide +kernel) rfl rfl (fun _ => ?_) (fun _ => ?_)
  · refine sim_seg [(.iconst 0, 0, 0, 0)] [] (q := 10) (L' := [some (.ref a0), some (.int b1), some (.int b2)]) (st' := [.int (J 0)]) (v1 := w3) (by decide +kernel) rfl trivial ?_
    exact sim_iret (by decide +kernel) rfl (by decide) rfl
  · refine sim_seg [(.aload_n 0, 0, 0, 0)] [] (q := 12) (L' := [some (.ref a0), some (.int b1), some (.int b2)]) (st' := [.ref a0]) (v1 := w3) (by decide +kernel) rfl trivial ?_
    refine sc_pv (pc3 := 15) (cf_V (idx := 199) (ci := 6) [] m_gm_advanceToken (by decide) ⟨by decide, by decide⟩ (List.mem_of_getElem? (i := 1722) (by decide +kernel)) rfl (Nat.le_of_ble_eq_true rfl) h1 (by decide +kernel) (Nat.le_of_ble_eq_true rfl) rfl) (ok_gm_advanceToken N a0 S w3) rfl (fun w4 => ?_)
    refine sim_seg [(.iconst 1, 0, 0, 1)] [] (q := 16) (L' := [some (.ref a0), some (.int b1), some (.int b2)]) (st' := [.int (J 1)]) (v1 := w4) (by decide +kernel) rfl trivial ?_
    exact sim_iret (by decide +kernel) rfl (by decide) rfl
def B_gm_readsSigned : bd := (⟨"GateCounterModel", "readsSigned", "(I)Z"⟩, prog_8_method_46_code, 3, (some .boolean), [], 6, 3)
theorem m_gm_readsSigned : mV B_gm_readsSigned 6 1 := ⟨⟨⟨by decide +kernel, Or.inl rfl⟩, rfl, (List.mem_of_getElem? (i := 1765) (by decide +kernel)), by decide +kernel, (List.mem_of_getElem? (i := 104) (by decide +kernel)), ⟨by decide, by decide⟩, by decide⟩, rfl, (by unfold nar; decide +kernel), (List.mem_of_getElem? (i := 1764) (by decide +kernel)), rfl, (List.mem_of_getElem? (i := 43) (by decide +kernel))⟩
noncomputable def K_gm_readsSigned_22 (N : Nat)  (S : shp) (v : vl) (p0 : Nat) (p1 : Int32) (p2 : Int32) : Option (Int32 × vl) :=
  grd (kin S p0 = some (0, 6)) <| (F_gm_reads N p0 (J 0) p1 S v).bind fun (x4, w5) => (if x4 = (J 0) then some (((J 0), w5)) else (if p2 = (J 0) then lt (si w5 p0 26 (gi w5 p0 26)) fun w6 => some (((J 1), w6)) else lt (si w5 p0 26 (-(gi w5 p0 26))) fun w7 => some (((J 1), w7))))
theorem sK_gm_readsSigned_22 (N : Nat)   (S : shp) (v : vl) (p0 : Nat) (p1 : Int32) (p2 : Int32) : SimK B_gm_readsSigned 22 [some (.ref p0), some (.int p1), some (.int p2)] [] S v (K_gm_readsSigned_22 N  S v p0 p1 p2) (ρpi S) := by
  unfold K_gm_readsSigned_22
  refine sim_seg [(.aload_n 0, 0, 0, 0), (.iconst 0, 0, 0, 0), (.iload_n 1, 0, 0, 0)] [] (q := 25) (L' := [some (.ref p0), some (.int p1), some (.int p2)]) (st' := [.int p1, .int (J 0), .ref p0]) (v1 := v) (by decide +kernel) rfl trivial ?_
  refine sim_grd fun h3 => ?_
  refine sc_pi (pc3 := 28) (cf_V (idx := 211) (ci := 6) [.int (J 0), .int p1] m_gm_reads (by decide) ⟨by decide, by decide⟩ (List.mem_of_getElem? (i := 1753) (by decide +kernel)) rfl (Nat.le_of_ble_eq_true rfl) h3 (by decide +kernel) (Nat.le_of_ble_eq_true rfl) rfl) (ok_gm_reads N p0 (J 0) p1 S v) rfl (fun x4 w5 => ?_)
  refine sim_ne0 (o := 5) (tg := 33) (f := 31) (by decide +kernel) rfl rfl (fun _ => ?_) (fun _ => ?_)
  · refine sim_seg [(.iconst 0, 0, 0, 0)] [] (q := 32) (L' := [some (.ref p0), some (.int p1), some (.int p2)]) (st' := [.int (J 0)]) (v1 := w5) (by decide +kernel) rfl trivial ?_
    exact sim_iret (by decide +kernel) rfl (by decide) rfl
  · refine sim_seg [(.aload_n 0, 0, 0, 0), (.iload_n 2, 0, 0, 0)] [] (q := 35) (L' := [some (.ref p0), some (.int p1), some (.int p2)]) (st' := [.int p2, .ref p0]) (v1 := w5) (by decide +kernel) rfl trivial ?_
    refine sim_eq0 (o := 11) (tg := 46) (f := 38) (by decide +kernel) rfl rfl (fun _ => ?_) (fun _ => ?_)
    · refine sim_seg [(.aload_n 0, 0, 0, 0), (.getfield 205, 6, 26, 0), (.putfield 205, 6, 26, 0), (.iconst 1, 0, 0, 1)] [] (q := 54) (L' := [some (.ref p0), some (.int p1), some (.int p2)]) (st' := [.int (J 1)]) (v1 := (si w5 p0 26 (gi w5 p0 26))) (by decide +kernel) rfl ⟨h3, h3, trivial⟩ ?_
      refine sim_lt (x := (si w5 p0 26 (gi w5 p0 26))) ?_
      generalize (si w5 p0 26 (gi w5 p0 26)) = w6
      exact sim_iret (by decide +kernel) rfl (by decide) rfl
    · refine sim_seg [(.aload_n 0, 0, 0, 0), (.getfield 205, 6, 26, 0), (.ineg, 0, 0, 0), (.goto 7, 0, 0, 0), (.putfield 205, 6, 26, 0), (.iconst 1, 0, 0, 1)] [] (q := 54) (L' := [some (.ref p0), some (.int p1), some (.int p2)]) (st' := [.int (J 1)]) (v1 := (si w5 p0 26 (-(gi w5 p0 26)))) (by decide +kernel) rfl ⟨h3, h3, trivial⟩ ?_
      refine sim_lt (x := (si w5 p0 26 (-(gi w5 p0 26)))) ?_
      generalize (si w5 p0 26 (-(gi w5 p0 26))) = w7
      exact sim_iret (by decide +kernel) rfl (by decide) rfl
noncomputable def F_gm_readsSigned (N : Nat) (a0 : Nat) (b1 : Int32) (S : shp) (v : vl) : Option (Int32 × vl) :=
  grd (kin S a0 = some (0, 6)) <| (if (gi v a0 25) = (J 4) then (F_gm_advanceToken N a0 S v).bind fun w2 => K_gm_readsSigned_22 N  S w2 a0 b1 (J 1) else K_gm_readsSigned_22 N  S v a0 b1 (J 0))
theorem ok_gm_readsSigned (N : Nat) (a0 : Nat) (b1 : Int32) (S : shp) (v : vl) : SimK B_gm_readsSigned 0 (entB (bN B_gm_readsSigned) [.ref a0, .int b1]) [] S v (F_gm_readsSigned N a0 b1 S v) (ρpi S) := by
  show SimK B_gm_readsSigned 0 [some (.ref a0), some (.int b1), none] [] S v (F_gm_readsSigned N a0 b1 S v) _
  unfold F_gm_readsSigned
  refine sim_grd fun h1 => ?_
  refine sim_seg [(.aload_n 0, 0, 0, 0), (.getfield 177, 6, 25, 0), (.iconst 4, 0, 0, 4)] [] (q := 5) (L' := [some (.ref a0), some (.int b1), none]) (st' := [.int (J 4), .int (gi v a0 25)]) (v1 := v) (by decide +kernel) rfl ⟨h1, trivial⟩ ?_
  refine sim_ne (o := 7) (tg := 12) (f := 8) (by decide +kernel) rfl rfl (fun _ => ?_) (fun _ => ?_)
  · refine sim_seg [(.iconst 1, 0, 0, 1), (.goto 4, 0, 0, 0), (.istore_n 2, 0, 0, 0)] [] (q := 14) (L' := [some (.ref a0), some (.int b1), some (.int (J 1))]) (st' := []) (v1 := v) (by decide +kernel) rfl trivial ?_
    refine sim_seg [(.iload_n 2, 0, 0, 0)] [] (q := 15) (L' := [some (.ref a0), some (.int b1), some (.int (J 1))]) (st' := [.int (J 1)]) (v1 := v) (by decide +kernel) rfl trivial ?_
    refine sim_ifF (c := (J 1) = (J 0)) (by decide) (sim_eq0 (o := 7) (tg := 22) (f := 18) (by decide +kernel) rfl rfl (fun _ => sim_none) (fun _ => ?_))
    refine sim_seg [(.aload_n 0, 0, 0, 0)] [] (q := 19) (L' := [some (.ref a0), some (.int b1), some (.int (J 1))]) (st' := [.ref a0]) (v1 := v) (by decide +kernel) rfl trivial ?_
    refine sc_pv (pc3 := 22) (cf_V (idx := 199) (ci := 6) [] m_gm_advanceToken (by decide) ⟨by decide, by decide⟩ (List.mem_of_getElem? (i := 1722) (by decide +kernel)) rfl (Nat.le_of_ble_eq_true rfl) h1 (by decide +kernel) (Nat.le_of_ble_eq_true rfl) rfl) (ok_gm_advanceToken N a0 S v) rfl (fun w2 => ?_)
    exact sK_gm_readsSigned_22 N S w2 a0 b1 (J 1)
  · refine sim_seg [(.iconst 0, 0, 0, 0), (.istore_n 2, 0, 0, 0)] [] (q := 14) (L' := [some (.ref a0), some (.int b1), some (.int (J 0))]) (st' := []) (v1 := v) (by decide +kernel) rfl trivial ?_
    refine sim_seg [(.iload_n 2, 0, 0, 0)] [] (q := 15) (L' := [some (.ref a0), some (.int b1), some (.int (J 0))]) (st' := [.int (J 0)]) (v1 := v) (by decide +kernel) rfl trivial ?_
    refine sim_ifT (c := (J 0) = (J 0)) (by decide) (sim_eq0 (o := 7) (tg := 22) (f := 18) (by decide +kernel) rfl rfl (fun _ => ?_) (fun _ => sim_none))
    exact sK_gm_readsSigned_22 N S v a0 b1 (J 0)
def B_gm_readClock : bd := (⟨"GateCounterModel", "readClock", "()Z"⟩, prog_8_method_47_code, 1, (some .boolean), [], 6, 6)
theorem m_gm_readClock : mV B_gm_readClock 6 0 := ⟨⟨⟨by decide +kernel, Or.inl rfl⟩, rfl, (List.mem_of_getElem? (i := 1737) (by decide +kernel)), by decide +kernel, (List.mem_of_getElem? (i := 104) (by decide +kernel)), ⟨by decide, by decide⟩, by decide⟩, rfl, (by unfold nar; decide +kernel), (List.mem_of_getElem? (i := 1736) (by decide +kernel)), rfl, (List.mem_of_getElem? (i := 37) (by decide +kernel))⟩
noncomputable def K_gm_readClock_80 (N : Nat)  (S : shp) (v : vl) (p0 : Nat) : Option (Int32 × vl) :=
  grd (kin S p0 = some (0, 6)) <| (F_gm_accepts N p0 (kad S 12) S v).bind fun (x17, w18) => (if x17 = (J 0) then some (((J 1), w18)) else (F_gm_readsSigned N p0 (J 1) S w18).bind fun (x19, w20) => (if x19 = (J 0) then some (((J 0), w20)) else (gr S p0 0).bind fun r21 => grd (kin S r21 = some (1, 199)) <| lt (si w20 r21 3 (gi w20 p0 26)) fun w24 => some (((J 1), w24))))
theorem sK_gm_readClock_80 (N : Nat)   (S : shp) (v : vl) (p0 : Nat) : SimK B_gm_readClock 80 [some (.ref p0)] [] S v (K_gm_readClock_80 N  S v p0) (ρpi S) := by
  unfold K_gm_readClock_80
  refine sim_seg [(.aload_n 0, 0, 0, 0)] [] (q := 81) (L' := [some (.ref p0)]) (st' := [.ref p0]) (v1 := v) (by decide +kernel) rfl trivial ?_
  refine sim_ldcs (idx := 224) (j := 12) (tx := "age") (pc3 := 83) (by decide +kernel) (by decide +kernel) rfl ?_
  refine sim_grd fun h16 => ?_
  refine sc_pi (pc3 := 86) (cf_V (idx := 216) (ci := 6) [.ref (kad S 12)] m_gm_accepts (by decide) ⟨by decide, by decide⟩ (List.mem_of_getElem? (i := 1739) (by decide +kernel)) rfl (Nat.le_of_ble_eq_true rfl) h16 (by decide +kernel) (Nat.le_of_ble_eq_true rfl) rfl) (ok_gm_accepts N p0 (kad S 12) S v) rfl (fun x17 w18 => ?_)
  refine sim_ne0 (o := 5) (tg := 91) (f := 89) (by decide +kernel) rfl rfl (fun _ => ?_) (fun _ => ?_)
  · refine sim_seg [(.iconst 1, 0, 0, 1)] [] (q := 90) (L' := [some (.ref p0)]) (st' := [.int (J 1)]) (v1 := w18) (by decide +kernel) rfl trivial ?_
    exact sim_iret (by decide +kernel) rfl (by decide) rfl
  · refine sim_seg [(.aload_n 0, 0, 0, 0), (.iconst 1, 0, 0, 1)] [] (q := 93) (L' := [some (.ref p0)]) (st' := [.int (J 1), .ref p0]) (v1 := w18) (by decide +kernel) rfl trivial ?_
    refine sc_pi (pc3 := 96) (cf_V (idx := 221) (ci := 6) [.int (J 1)] m_gm_readsSigned (by decide) ⟨by decide, by decide⟩ (List.mem_of_getElem? (i := 1762) (by decide +kernel)) rfl (Nat.le_of_ble_eq_true rfl) h16 (by decide +kernel) (Nat.le_of_ble_eq_true rfl) rfl) (ok_gm_readsSigned N p0 (J 1) S w18) rfl (fun x19 w20 => ?_)
    refine sim_ne0 (o := 5) (tg := 101) (f := 99) (by decide +kernel) rfl rfl (fun _ => ?_) (fun _ => ?_)
    · refine sim_seg [(.iconst 0, 0, 0, 0)] [] (q := 100) (L' := [some (.ref p0)]) (st' := [.int (J 0)]) (v1 := w20) (by decide +kernel) rfl trivial ?_
      exact sim_iret (by decide +kernel) rfl (by decide) rfl
    · refine sim_bind fun r21 h22 => ?_
      refine sim_grd fun h23 => ?_
      refine sim_seg [(.aload_n 0, 0, 0, 0), (.getfield 7, 6, 0, 0), (.iconst 3, 0, 0, 3), (.aload_n 0, 0, 0, 0), (.getfield 205, 6, 26, 0), (.iastore, 0, 0, 0), (.iconst 1, 0, 0, 1)] [r21] (q := 112) (L' := [some (.ref p0)]) (st' := [.int (J 1)]) (v1 := (si w20 r21 3 (gi w20 p0 26))) (by decide +kernel) rfl ⟨⟨h16, h22⟩, h16, ⟨(kin_alen h23), (vin_J h23 (by unfold vp_in; decide))⟩, trivial⟩ ?_
      refine sim_lt (x := (si w20 r21 3 (gi w20 p0 26))) ?_
      generalize (si w20 r21 3 (gi w20 p0 26)) = w24
      exact sim_iret (by decide +kernel) rfl (by decide) rfl
noncomputable def F_gm_readClock (N : Nat) (a0 : Nat) (S : shp) (v : vl) : Option (Int32 × vl) :=
  grd (kin S a0 = some (0, 6)) <| (F_gm_accepts N a0 (kad S 10) S v).bind fun (x2, w3) => (if x2 = (J 0) then (F_gm_failsAt a0 (J 1) S w3).bind fun (x4, w5) => grd (narrow .boolean (.int x4) = .int x4) <| some ((x4, w5)) else (F_gm_reads N a0 (J 10) (J 999) S w3).bind fun (x7, w8) => (if x7 = (J 0) then some (((J 0), w8)) else (gr S a0 0).bind fun r9 => grd (kin S r9 = some (1, 199)) <| lt (si w8 r9 1 (gi w8 a0 26)) fun w12 => lt (si w12 r9 9 (gi w12 a0 26)) fun w13 => (F_gm_accepts N a0 (kad S 11) S w13).bind fun (x14, w15) => (if x14 = (J 0) then K_gm_readClock_80 N  S w15 a0 else (F_gm_readsSigned N a0 (J 99) S w15).bind fun (x25, w26) => (if x25 = (J 0) then some (((J 0), w26)) else lt (si w26 r9 2 (gi w26 a0 26)) fun w27 => K_gm_readClock_80 N  S w27 a0))))
theorem ok_gm_readClock (N : Nat) (a0 : Nat) (S : shp) (v : vl) : SimK B_gm_readClock 0 (entB (bN B_gm_readClock) [.ref a0]) [] S v (F_gm_readClock N a0 S v) (ρpi S) := by
  show SimK B_gm_readClock 0 [some (.ref a0)] [] S v (F_gm_readClock N a0 S v) _
  unfold F_gm_readClock
  refine sim_seg [(.aload_n 0, 0, 0, 0)] [] (q := 1) (L' := [some (.ref a0)]) (st' := [.ref a0]) (v1 := v) (by decide +kernel) rfl trivial ?_
  refine sim_ldcs (idx := 214) (j := 10) (tx := "clock") (pc3 := 3) (by decide +kernel) (by decide +kernel) rfl ?_
  refine sim_grd fun h1 => ?_
  refine sc_pi (pc3 := 6) (cf_V (idx := 216) (ci := 6) [.ref (kad S 10)] m_gm_accepts (by decide) ⟨by decide, by decide⟩ (List.mem_of_getElem? (i := 1739) (by decide +kernel)) rfl (Nat.le_of_ble_eq_true rfl) h1 (by decide +kernel) (Nat.le_of_ble_eq_true rfl) rfl) (ok_gm_accepts N a0 (kad S 10) S v) rfl (fun x2 w3 => ?_)
  refine sim_ne0 (o := 9) (tg := 15) (f := 9) (by decide +kernel) rfl rfl (fun _ => ?_) (fun _ => ?_)
  · refine sim_seg [(.aload_n 0, 0, 0, 0), (.iconst 1, 0, 0, 1)] [] (q := 11) (L' := [some (.ref a0)]) (st' := [.int (J 1), .ref a0]) (v1 := w3) (by decide +kernel) rfl trivial ?_
    refine sc_pi (pc3 := 14) (cf_V (idx := 202) (ci := 6) [.int (J 1)] m_gm_failsAt (by decide) ⟨by decide, by decide⟩ (List.mem_of_getElem? (i := 1749) (by decide +kernel)) rfl (Nat.le_of_ble_eq_true rfl) h1 (by decide +kernel) (Nat.le_of_ble_eq_true rfl) rfl) (ok_gm_failsAt a0 (J 1) S w3) rfl (fun x4 w5 => ?_)
    refine sim_grd fun h6 => ?_
    exact sim_iret (by decide +kernel) rfl h6 rfl
  · refine sim_seg [(.aload_n 0, 0, 0, 0), (.bipush 10, 0, 0, 10), (.sipush 999, 0, 0, 999)] [] (q := 21) (L' := [some (.ref a0)]) (st' := [.int (J 999), .int (J 10), .ref a0]) (v1 := w3) (by decide +kernel) rfl trivial ?_
    refine sc_pi (pc3 := 24) (cf_V (idx := 211) (ci := 6) [.int (J 10), .int (J 999)] m_gm_reads (by decide) ⟨by decide, by decide⟩ (List.mem_of_getElem? (i := 1753) (by decide +kernel)) rfl (Nat.le_of_ble_eq_true rfl) h1 (by decide +kernel) (Nat.le_of_ble_eq_true rfl) rfl) (ok_gm_reads N a0 (J 10) (J 999) S w3) rfl (fun x7 w8 => ?_)
    refine sim_ne0 (o := 5) (tg := 29) (f := 27) (by decide +kernel) rfl rfl (fun _ => ?_) (fun _ => ?_)
    · refine sim_seg [(.iconst 0, 0, 0, 0)] [] (q := 28) (L' := [some (.ref a0)]) (st' := [.int (J 0)]) (v1 := w8) (by decide +kernel) rfl trivial ?_
      exact sim_iret (by decide +kernel) rfl (by decide) rfl
    · refine sim_bind fun r9 h10 => ?_
      refine sim_grd fun h11 => ?_
      refine sim_seg [(.aload_n 0, 0, 0, 0), (.getfield 7, 6, 0, 0), (.iconst 1, 0, 0, 1), (.aload_n 0, 0, 0, 0), (.getfield 205, 6, 26, 0), (.iastore, 0, 0, 0), (.aload_n 0, 0, 0, 0)] [r9] (q := 40) (L' := [some (.ref a0)]) (st' := [.ref a0]) (v1 := (si w8 r9 1 (gi w8 a0 26))) (by decide +kernel) rfl ⟨⟨h1, h10⟩, h1, ⟨(kin_alen h11), (vin_J h11 (by unfold vp_in; decide))⟩, trivial⟩ ?_
      refine sim_lt (x := (si w8 r9 1 (gi w8 a0 26))) ?_
      generalize (si w8 r9 1 (gi w8 a0 26)) = w12
      refine sim_seg [(.getfield 7, 6, 0, 0), (.bipush 9, 0, 0, 9), (.aload_n 0, 0, 0, 0), (.getfield 205, 6, 26, 0), (.iastore, 0, 0, 0), (.aload_n 0, 0, 0, 0)] [r9] (q := 51) (L' := [some (.ref a0)]) (st' := [.ref a0]) (v1 := (si w12 r9 9 (gi w12 a0 26))) (by decide +kernel) rfl ⟨⟨h1, h10⟩, h1, ⟨(kin_alen h11), (vin_J h11 (by unfold vp_in; decide))⟩, trivial⟩ ?_
      refine sim_lt (x := (si w12 r9 9 (gi w12 a0 26))) ?_
      generalize (si w12 r9 9 (gi w12 a0 26)) = w13
      refine sim_ldcs (idx := 219) (j := 11) (tx := "drift") (pc3 := 53) (by decide +kernel) (by decide +kernel) rfl ?_
      refine sc_pi (pc3 := 56) (cf_V (idx := 216) (ci := 6) [.ref (kad S 11)] m_gm_accepts (by decide) ⟨by decide, by decide⟩ (List.mem_of_getElem? (i := 1739) (by decide +kernel)) rfl (Nat.le_of_ble_eq_true rfl) h1 (by decide +kernel) (Nat.le_of_ble_eq_true rfl) rfl) (ok_gm_accepts N a0 (kad S 11) S w13) rfl (fun x14 w15 => ?_)
      refine sim_eq0 (o := 24) (tg := 80) (f := 59) (by decide +kernel) rfl rfl (fun _ => ?_) (fun _ => ?_)
      · exact sK_gm_readClock_80 N S w15 a0
      · refine sim_seg [(.aload_n 0, 0, 0, 0), (.bipush 99, 0, 0, 99)] [] (q := 62) (L' := [some (.ref a0)]) (st' := [.int (J 99), .ref a0]) (v1 := w15) (by decide +kernel) rfl trivial ?_
        refine sc_pi (pc3 := 65) (cf_V (idx := 221) (ci := 6) [.int (J 99)] m_gm_readsSigned (by decide) ⟨by decide, by decide⟩ (List.mem_of_getElem? (i := 1762) (by decide +kernel)) rfl (Nat.le_of_ble_eq_true rfl) h1 (by decide +kernel) (Nat.le_of_ble_eq_true rfl) rfl) (ok_gm_readsSigned N a0 (J 99) S w15) rfl (fun x25 w26 => ?_)
        refine sim_ne0 (o := 5) (tg := 70) (f := 68) (by decide +kernel) rfl rfl (fun _ => ?_) (fun _ => ?_)
        · refine sim_seg [(.iconst 0, 0, 0, 0)] [] (q := 69) (L' := [some (.ref a0)]) (st' := [.int (J 0)]) (v1 := w26) (by decide +kernel) rfl trivial ?_
          exact sim_iret (by decide +kernel) rfl (by decide) rfl
        · refine sim_seg [(.aload_n 0, 0, 0, 0), (.getfield 7, 6, 0, 0), (.iconst 2, 0, 0, 2), (.aload_n 0, 0, 0, 0), (.getfield 205, 6, 26, 0), (.iastore, 0, 0, 0)] [r9] (q := 80) (L' := [some (.ref a0)]) (st' := []) (v1 := (si w26 r9 2 (gi w26 a0 26))) (by decide +kernel) rfl ⟨⟨h1, h10⟩, h1, ⟨(kin_alen h11), (vin_J h11 (by unfold vp_in; decide))⟩, trivial⟩ ?_
          refine sim_lt (x := (si w26 r9 2 (gi w26 a0 26))) ?_
          generalize (si w26 r9 2 (gi w26 a0 26)) = w27
          exact sK_gm_readClock_80 N S w27 a0
def B_gm_readEnd : bd := (⟨"GateCounterModel", "readEnd", "()Z"⟩, prog_8_method_56_code, 1, (some .boolean), [], 6, 2)
theorem m_gm_readEnd : mV B_gm_readEnd 6 0 := ⟨⟨⟨by decide +kernel, Or.inl rfl⟩, rfl, (List.mem_of_getElem? (i := 1770) (by decide +kernel)), by decide +kernel, (List.mem_of_getElem? (i := 104) (by decide +kernel)), ⟨by decide, by decide⟩, by decide⟩, rfl, (by unfold nar; decide +kernel), (List.mem_of_getElem? (i := 1769) (by decide +kernel)), rfl, (List.mem_of_getElem? (i := 44) (by decide +kernel))⟩
noncomputable def F_gm_readEnd (N : Nat) (a0 : Nat) (S : shp) (v : vl) : Option (Int32 × vl) :=
  grd (kin S a0 = some (0, 6)) <| (if (gi v a0 25) = (J 3) then (F_gm_advanceToken N a0 S v).bind fun w2 => some (((J 1), w2)) else (F_gm_failsAt a0 (J 1) S v).bind fun (x3, w4) => grd (narrow .boolean (.int x3) = .int x3) <| some ((x3, w4)))
theorem ok_gm_readEnd (N : Nat) (a0 : Nat) (S : shp) (v : vl) : SimK B_gm_readEnd 0 (entB (bN B_gm_readEnd) [.ref a0]) [] S v (F_gm_readEnd N a0 S v) (ρpi S) := by
  show SimK B_gm_readEnd 0 [some (.ref a0)] [] S v (F_gm_readEnd N a0 S v) _
  unfold F_gm_readEnd
  refine sim_grd fun h1 => ?_
  refine sim_seg [(.aload_n 0, 0, 0, 0), (.getfield 177, 6, 25, 0), (.iconst 3, 0, 0, 3)] [] (q := 5) (L' := [some (.ref a0)]) (st' := [.int (J 3), .int (gi v a0 25)]) (v1 := v) (by decide +kernel) rfl ⟨h1, trivial⟩ ?_
  refine sim_eq (o := 9) (tg := 14) (f := 8) (by decide +kernel) rfl rfl (fun _ => ?_) (fun _ => ?_)
  · refine sim_seg [(.aload_n 0, 0, 0, 0)] [] (q := 15) (L' := [some (.ref a0)]) (st' := [.ref a0]) (v1 := v) (by decide +kernel) rfl trivial ?_
    refine sc_pv (pc3 := 18) (cf_V (idx := 199) (ci := 6) [] m_gm_advanceToken (by decide) ⟨by decide, by decide⟩ (List.mem_of_getElem? (i := 1722) (by decide +kernel)) rfl (Nat.le_of_ble_eq_true rfl) h1 (by decide +kernel) (Nat.le_of_ble_eq_true rfl) rfl) (ok_gm_advanceToken N a0 S v) rfl (fun w2 => ?_)
    refine sim_seg [(.iconst 1, 0, 0, 1)] [] (q := 19) (L' := [some (.ref a0)]) (st' := [.int (J 1)]) (v1 := w2) (by decide +kernel) rfl trivial ?_
    exact sim_iret (by decide +kernel) rfl (by decide) rfl
  · refine sim_seg [(.aload_n 0, 0, 0, 0), (.iconst 1, 0, 0, 1)] [] (q := 10) (L' := [some (.ref a0)]) (st' := [.int (J 1), .ref a0]) (v1 := v) (by decide +kernel) rfl trivial ?_
    refine sc_pi (pc3 := 13) (cf_V (idx := 202) (ci := 6) [.int (J 1)] m_gm_failsAt (by decide) ⟨by decide, by decide⟩ (List.mem_of_getElem? (i := 1749) (by decide +kernel)) rfl (Nat.le_of_ble_eq_true rfl) h1 (by decide +kernel) (Nat.le_of_ble_eq_true rfl) rfl) (ok_gm_failsAt a0 (J 1) S v) rfl (fun x3 w4 => ?_)
    refine sim_grd fun h5 => ?_
    exact sim_iret (by decide +kernel) rfl h5 rfl
def B_gm_isOnce : bd := (⟨"GateCounterModel", "isOnce", "(I)Z"⟩, prog_8_method_48_code, 2, (some .boolean), [], 6, 2)
theorem m_gm_isOnce : mV B_gm_isOnce 6 1 := ⟨⟨⟨by decide +kernel, Or.inl rfl⟩, rfl, (List.mem_of_getElem? (i := 1783) (by decide +kernel)), by decide +kernel, (List.mem_of_getElem? (i := 104) (by decide +kernel)), ⟨by decide, by decide⟩, by decide⟩, rfl, (by unfold nar; decide +kernel), (List.mem_of_getElem? (i := 1782) (by decide +kernel)), rfl, (List.mem_of_getElem? (i := 47) (by decide +kernel))⟩
noncomputable def F_gm_isOnce (N : Nat) (a0 : Nat) (b1 : Int32) (S : shp) (v : vl) : Option (Int32 × vl) :=
  grd (kin S a0 = some (0, 6)) <| (if (((gi v a0 27) >>> (b1 &&& 31)) &&& (J 1)) = (J 1) then (F_gm_failsAt a0 (J 3) S v).bind fun (x2, w3) => grd (narrow .boolean (.int x2) = .int x2) <| some ((x2, w3)) else lt (si v a0 27 ((gi v a0 27) ||| ((J 1) <<< (b1 &&& 31)))) fun w5 => (F_gm_advanceToken N a0 S w5).bind fun w6 => some (((J 1), w6)))
theorem ok_gm_isOnce (N : Nat) (a0 : Nat) (b1 : Int32) (S : shp) (v : vl) : SimK B_gm_isOnce 0 (entB (bN B_gm_isOnce) [.ref a0, .int b1]) [] S v (F_gm_isOnce N a0 b1 S v) (ρpi S) := by
  show SimK B_gm_isOnce 0 [some (.ref a0), some (.int b1)] [] S v (F_gm_isOnce N a0 b1 S v) _
  unfold F_gm_isOnce
  refine sim_grd fun h1 => ?_
  refine sim_seg [(.aload_n 0, 0, 0, 0), (.getfield 226, 6, 27, 0), (.iload_n 1, 0, 0, 0), (.ishr, 0, 0, 0), (.iconst 1, 0, 0, 1), (.iand, 0, 0, 0), (.iconst 1, 0, 0, 1)] [] (q := 9) (L' := [some (.ref a0), some (.int b1)]) (st' := [.int (J 1), .int (((gi v a0 27) >>> (b1 &&& 31)) &&& (J 1))]) (v1 := v) (by decide +kernel) rfl ⟨h1, trivial⟩ ?_
  refine sim_ne (o := 9) (tg := 18) (f := 12) (by decide +kernel) rfl rfl (fun _ => ?_) (fun _ => ?_)
  · refine sim_seg [(.aload_n 0, 0, 0, 0), (.iconst 3, 0, 0, 3)] [] (q := 14) (L' := [some (.ref a0), some (.int b1)]) (st' := [.int (J 3), .ref a0]) (v1 := v) (by decide +kernel) rfl trivial ?_
    refine sc_pi (pc3 := 17) (cf_V (idx := 202) (ci := 6) [.int (J 3)] m_gm_failsAt (by decide) ⟨by decide, by decide⟩ (List.mem_of_getElem? (i := 1749) (by decide +kernel)) rfl (Nat.le_of_ble_eq_true rfl) h1 (by decide +kernel) (Nat.le_of_ble_eq_true rfl) rfl) (ok_gm_failsAt a0 (J 3) S v) rfl (fun x2 w3 => ?_)
    refine sim_grd fun h4 => ?_
    exact sim_iret (by decide +kernel) rfl h4 rfl
  · refine sim_seg [(.aload_n 0, 0, 0, 0), (.dup, 0, 0, 0), (.getfield 226, 6, 27, 0), (.iconst 1, 0, 0, 1), (.iload_n 1, 0, 0, 0), (.ishl, 0, 0, 0), (.ior, 0, 0, 0), (.putfield 226, 6, 27, 0), (.aload_n 0, 0, 0, 0)] [] (q := 31) (L' := [some (.ref a0), some (.int b1)]) (st' := [.ref a0]) (v1 := (si v a0 27 ((gi v a0 27) ||| ((J 1) <<< (b1 &&& 31))))) (by decide +kernel) rfl ⟨h1, h1, trivial⟩ ?_
    refine sim_lt (x := (si v a0 27 ((gi v a0 27) ||| ((J 1) <<< (b1 &&& 31))))) ?_
    generalize (si v a0 27 ((gi v a0 27) ||| ((J 1) <<< (b1 &&& 31)))) = w5
    refine sc_pv (pc3 := 34) (cf_V (idx := 199) (ci := 6) [] m_gm_advanceToken (by decide) ⟨by decide, by decide⟩ (List.mem_of_getElem? (i := 1722) (by decide +kernel)) rfl (Nat.le_of_ble_eq_true rfl) h1 (by decide +kernel) (Nat.le_of_ble_eq_true rfl) rfl) (ok_gm_advanceToken N a0 S w5) rfl (fun w6 => ?_)
    refine sim_seg [(.iconst 1, 0, 0, 1)] [] (q := 35) (L' := [some (.ref a0), some (.int b1)]) (st' := [.int (J 1)]) (v1 := w6) (by decide +kernel) rfl trivial ?_
    exact sim_iret (by decide +kernel) rfl (by decide) rfl
def B_gm_readOnce : bd := (⟨"GateCounterModel", "readOnce", "(III)Z"⟩, prog_8_method_51_code, 4, (some .boolean), [], 6, 3)
theorem m_gm_readOnce : mV B_gm_readOnce 6 3 := ⟨⟨⟨by decide +kernel, Or.inl rfl⟩, rfl, (List.mem_of_getElem? (i := 1791) (by decide +kernel)), by decide +kernel, (List.mem_of_getElem? (i := 104) (by decide +kernel)), ⟨by decide, by decide⟩, by decide⟩, rfl, (by unfold nar; decide +kernel), (List.mem_of_getElem? (i := 1790) (by decide +kernel)), rfl, (List.mem_of_getElem? (i := 48) (by decide +kernel))⟩
noncomputable def F_gm_readOnce (N : Nat) (a0 : Nat) (b1 : Int32) (b2 : Int32) (b3 : Int32) (S : shp) (v : vl) : Option (Int32 × vl) :=
  grd (kin S a0 = some (0, 6)) <| (F_gm_isOnce N a0 b1 S v).bind fun (x2, w3) => (if x2 = (J 0) then some (((J 0), w3)) else (F_gm_reads N a0 (J 1) b3 S w3).bind fun (x4, w5) => (if x4 = (J 0) then some (((J 0), w5)) else (gr S a0 0).bind fun r6 => grd (kin S r6 = some (1, 199)) <| grd (vp_in b2 (alen S r6)) <| lt (si w5 r6 (Int32.toNatClampNeg b2) (gi w5 a0 26)) fun w10 => some (((J 1), w10))))
theorem ok_gm_readOnce (N : Nat) (a0 : Nat) (b1 : Int32) (b2 : Int32) (b3 : Int32) (S : shp) (v : vl) : SimK B_gm_readOnce 0 (entB (bN B_gm_readOnce) [.ref a0, .int b1, .int b2, .int b3]) [] S v (F_gm_readOnce N a0 b1 b2 b3 S v) (ρpi S) := by
  show SimK B_gm_readOnce 0 [some (.ref a0), some (.int b1), some (.int b2), some (.int b3)] [] S v (F_gm_readOnce N a0 b1 b2 b3 S v) _
  unfold F_gm_readOnce
  refine sim_seg [(.aload_n 0, 0, 0, 0), (.iload_n 1, 0, 0, 0)] [] (q := 2) (L' := [some (.ref a0), some (.int b1), some (.int b2), some (.int b3)]) (st' := [.int b1, .ref a0]) (v1 := v) (by decide +kernel) rfl trivial ?_
  refine sim_grd fun h1 => ?_
  refine sc_pi (pc3 := 5) (cf_V (idx := 229) (ci := 6) [.int b1] m_gm_isOnce (by decide) ⟨by decide, by decide⟩ (List.mem_of_getElem? (i := 1780) (by decide +kernel)) rfl (Nat.le_of_ble_eq_true rfl) h1 (by decide +kernel) (Nat.le_of_ble_eq_true rfl) rfl) (ok_gm_isOnce N a0 b1 S v) rfl (fun x2 w3 => ?_)
  refine sim_eq0 (o := 12) (tg := 17) (f := 8) (by decide +kernel) rfl rfl (fun _ => ?_) (fun _ => ?_)
  · refine sim_seg [(.iconst 0, 0, 0, 0)] [] (q := 18) (L' := [some (.ref a0), some (.int b1), some (.int b2), some (.int b3)]) (st' := [.int (J 0)]) (v1 := w3) (by decide +kernel) rfl trivial ?_
    exact sim_iret (by decide +kernel) rfl (by decide) rfl
  · refine sim_seg [(.aload_n 0, 0, 0, 0), (.iconst 1, 0, 0, 1), (.iload_n 3, 0, 0, 0)] [] (q := 11) (L' := [some (.ref a0), some (.int b1), some (.int b2), some (.int b3)]) (st' := [.int b3, .int (J 1), .ref a0]) (v1 := w3) (by decide +kernel) rfl trivial ?_
    refine sc_pi (pc3 := 14) (cf_V (idx := 211) (ci := 6) [.int (J 1), .int b3] m_gm_reads (by decide) ⟨by decide, by decide⟩ (List.mem_of_getElem? (i := 1753) (by decide +kernel)) rfl (Nat.le_of_ble_eq_true rfl) h1 (by decide +kernel) (Nat.le_of_ble_eq_true rfl) rfl) (ok_gm_reads N a0 (J 1) b3 S w3) rfl (fun x4 w5 => ?_)
    refine sim_ne0 (o := 5) (tg := 19) (f := 17) (by decide +kernel) rfl rfl (fun _ => ?_) (fun _ => ?_)
    · refine sim_seg [(.iconst 0, 0, 0, 0)] [] (q := 18) (L' := [some (.ref a0), some (.int b1), some (.int b2), some (.int b3)]) (st' := [.int (J 0)]) (v1 := w5) (by decide +kernel) rfl trivial ?_
      exact sim_iret (by decide +kernel) rfl (by decide) rfl
    · refine sim_bind fun r6 h7 => ?_
      refine sim_grd fun h8 => ?_
      refine sim_grd fun h9 => ?_
      refine sim_seg [(.aload_n 0, 0, 0, 0), (.getfield 7, 6, 0, 0), (.iload_n 2, 0, 0, 0), (.aload_n 0, 0, 0, 0), (.getfield 205, 6, 26, 0), (.iastore, 0, 0, 0), (.iconst 1, 0, 0, 1)] [r6] (q := 30) (L' := [some (.ref a0), some (.int b1), some (.int b2), some (.int b3)]) (st' := [.int (J 1)]) (v1 := (si w5 r6 (Int32.toNatClampNeg b2) (gi w5 a0 26))) (by decide +kernel) rfl ⟨⟨h1, h7⟩, h1, ⟨(kin_alen h8), h9⟩, trivial⟩ ?_
      refine sim_lt (x := (si w5 r6 (Int32.toNatClampNeg b2) (gi w5 a0 26))) ?_
      generalize (si w5 r6 (Int32.toNatClampNeg b2) (gi w5 a0 26)) = w10
      exact sim_iret (by decide +kernel) rfl (by decide) rfl
def B_gm_mayBeP : bd := (⟨"GateCounterModel", "mayBeP", "(I)Z"⟩, prog_8_method_49_code, 1, (some .boolean), [], 6, 0)
theorem m_gm_mayBeP : mS B_gm_mayBeP 1 := ⟨⟨⟨by decide +kernel, Or.inl rfl⟩, rfl, (List.mem_of_getElem? (i := 1786) (by decide +kernel)), by decide +kernel, (List.mem_of_getElem? (i := 104) (by decide +kernel)), ⟨by decide, by decide⟩, by decide⟩, rfl, (by unfold nar; decide +kernel), (List.mem_of_getElem? (i := 1785) (by decide +kernel))⟩
noncomputable def F_gm_mayBeP (b0 : Int32) (S : shp) (v : vl) : Option Int32 :=
  (if b0 = (J 1) then some ((J 1)) else (if b0 = (J 2) then some ((J 1)) else (if b0 = (J 4) then some ((J 1)) else (if b0 = (J 8) then some ((J 1)) else (if b0 = (J 16) then some ((J 1)) else some ((J 0)))))))
theorem ok_gm_mayBeP (b0 : Int32) (S : shp) (v : vl) : SimK B_gm_mayBeP 0 (entB (bN B_gm_mayBeP) [.int b0]) [] S v (F_gm_mayBeP b0 S v) (ρri S v) := by
  show SimK B_gm_mayBeP 0 [some (.int b0)] [] S v (F_gm_mayBeP b0 S v) _
  unfold F_gm_mayBeP
  refine sim_seg [(.iload_n 0, 0, 0, 0), (.iconst 1, 0, 0, 1)] [] (q := 2) (L' := [some (.int b0)]) (st' := [.int (J 1), .int b0]) (v1 := v) (by decide +kernel) rfl trivial ?_
  refine sim_eq (o := 25) (tg := 27) (f := 5) (by decide +kernel) rfl rfl (fun _ => ?_) (fun _ => ?_)
  · refine sim_seg [(.iconst 1, 0, 0, 1), (.goto 4, 0, 0, 0)] [] (q := 32) (L' := [some (.int b0)]) (st' := [.int (J 1)]) (v1 := v) (by decide +kernel) rfl trivial ?_
    exact sim_iret (by decide +kernel) rfl (by decide) rfl
  · refine sim_seg [(.iload_n 0, 0, 0, 0), (.iconst 2, 0, 0, 2)] [] (q := 7) (L' := [some (.int b0)]) (st' := [.int (J 2), .int b0]) (v1 := v) (by decide +kernel) rfl trivial ?_
    refine sim_eq (o := 20) (tg := 27) (f := 10) (by decide +kernel) rfl rfl (fun _ => ?_) (fun _ => ?_)
    · refine sim_seg [(.iconst 1, 0, 0, 1), (.goto 4, 0, 0, 0)] [] (q := 32) (L' := [some (.int b0)]) (st' := [.int (J 1)]) (v1 := v) (by decide +kernel) rfl trivial ?_
      exact sim_iret (by decide +kernel) rfl (by decide) rfl
    · refine sim_seg [(.iload_n 0, 0, 0, 0), (.iconst 4, 0, 0, 4)] [] (q := 12) (L' := [some (.int b0)]) (st' := [.int (J 4), .int b0]) (v1 := v) (by decide +kernel) rfl trivial ?_
      refine sim_eq (o := 15) (tg := 27) (f := 15) (by decide +kernel) rfl rfl (fun _ => ?_) (fun _ => ?_)
      · refine sim_seg [(.iconst 1, 0, 0, 1), (.goto 4, 0, 0, 0)] [] (q := 32) (L' := [some (.int b0)]) (st' := [.int (J 1)]) (v1 := v) (by decide +kernel) rfl trivial ?_
        exact sim_iret (by decide +kernel) rfl (by decide) rfl
      · refine sim_seg [(.iload_n 0, 0, 0, 0), (.bipush 8, 0, 0, 8)] [] (q := 18) (L' := [some (.int b0)]) (st' := [.int (J 8), .int b0]) (v1 := v) (by decide +kernel) rfl trivial ?_
        refine sim_eq (o := 9) (tg := 27) (f := 21) (by decide +kernel) rfl rfl (fun _ => ?_) (fun _ => ?_)
        · refine sim_seg [(.iconst 1, 0, 0, 1), (.goto 4, 0, 0, 0)] [] (q := 32) (L' := [some (.int b0)]) (st' := [.int (J 1)]) (v1 := v) (by decide +kernel) rfl trivial ?_
          exact sim_iret (by decide +kernel) rfl (by decide) rfl
        · refine sim_seg [(.iload_n 0, 0, 0, 0), (.bipush 16, 0, 0, 16)] [] (q := 24) (L' := [some (.int b0)]) (st' := [.int (J 16), .int b0]) (v1 := v) (by decide +kernel) rfl trivial ?_
          refine sim_ne (o := 7) (tg := 31) (f := 27) (by decide +kernel) rfl rfl (fun _ => ?_) (fun _ => ?_)
          · refine sim_seg [(.iconst 1, 0, 0, 1), (.goto 4, 0, 0, 0)] [] (q := 32) (L' := [some (.int b0)]) (st' := [.int (J 1)]) (v1 := v) (by decide +kernel) rfl trivial ?_
            exact sim_iret (by decide +kernel) rfl (by decide) rfl
          · refine sim_seg [(.iconst 0, 0, 0, 0)] [] (q := 32) (L' := [some (.int b0)]) (st' := [.int (J 0)]) (v1 := v) (by decide +kernel) rfl trivial ?_
            exact sim_iret (by decide +kernel) rfl (by decide) rfl
def B_gm_readPrescale : bd := (⟨"GateCounterModel", "readPrescale", "()Z"⟩, prog_8_method_50_code, 1, (some .boolean), [], 6, 3)
theorem m_gm_readPrescale : mV B_gm_readPrescale 6 0 := ⟨⟨⟨by decide +kernel, Or.inl rfl⟩, rfl, (List.mem_of_getElem? (i := 1779) (by decide +kernel)), by decide +kernel, (List.mem_of_getElem? (i := 104) (by decide +kernel)), ⟨by decide, by decide⟩, by decide⟩, rfl, (by unfold nar; decide +kernel), (List.mem_of_getElem? (i := 1778) (by decide +kernel)), rfl, (List.mem_of_getElem? (i := 46) (by decide +kernel))⟩
noncomputable def F_gm_readPrescale (N : Nat) (a0 : Nat) (S : shp) (v : vl) : Option (Int32 × vl) :=
  grd (kin S a0 = some (0, 6)) <| (F_gm_isOnce N a0 (J 0) S v).bind fun (x2, w3) => (if x2 = (J 0) then some (((J 0), w3)) else (F_gm_sees a0 (J 1) (J 16) S w3).bind fun (x4, w5) => (if x4 = (J 0) then some (((J 0), w5)) else (F_gm_mayBeP (gi w5 a0 26) S w5).bind fun x6 => (if x6 = (J 0) then (F_gm_failsAt a0 (J 2) S w5).bind fun (x7, w8) => grd (narrow .boolean (.int x7) = .int x7) <| some ((x7, w8)) else (gr S a0 0).bind fun r10 => grd (kin S r10 = some (1, 199)) <| lt (si w5 r10 4 (gi w5 a0 26)) fun w13 => (F_gm_advanceToken N a0 S w13).bind fun w14 => some (((J 1), w14)))))
theorem ok_gm_readPrescale (N : Nat) (a0 : Nat) (S : shp) (v : vl) : SimK B_gm_readPrescale 0 (entB (bN B_gm_readPrescale) [.ref a0]) [] S v (F_gm_readPrescale N a0 S v) (ρpi S) := by
  show SimK B_gm_readPrescale 0 [some (.ref a0)] [] S v (F_gm_readPrescale N a0 S v) _
  unfold F_gm_readPrescale
  refine sim_seg [(.aload_n 0, 0, 0, 0), (.iconst 0, 0, 0, 0)] [] (q := 2) (L' := [some (.ref a0)]) (st' := [.int (J 0), .ref a0]) (v1 := v) (by decide +kernel) rfl trivial ?_
  refine sim_grd fun h1 => ?_
  refine sc_pi (pc3 := 5) (cf_V (idx := 229) (ci := 6) [.int (J 0)] m_gm_isOnce (by decide) ⟨by decide, by decide⟩ (List.mem_of_getElem? (i := 1780) (by decide +kernel)) rfl (Nat.le_of_ble_eq_true rfl) h1 (by decide +kernel) (Nat.le_of_ble_eq_true rfl) rfl) (ok_gm_isOnce N a0 (J 0) S v) rfl (fun x2 w3 => ?_)
  refine sim_eq0 (o := 13) (tg := 18) (f := 8) (by decide +kernel) rfl rfl (fun _ => ?_) (fun _ => ?_)
  · refine sim_seg [(.iconst 0, 0, 0, 0)] [] (q := 19) (L' := [some (.ref a0)]) (st' := [.int (J 0)]) (v1 := w3) (by decide +kernel) rfl trivial ?_
    exact sim_iret (by decide +kernel) rfl (by decide) rfl
  · refine sim_seg [(.aload_n 0, 0, 0, 0), (.iconst 1, 0, 0, 1), (.bipush 16, 0, 0, 16)] [] (q := 12) (L' := [some (.ref a0)]) (st' := [.int (J 16), .int (J 1), .ref a0]) (v1 := w3) (by decide +kernel) rfl trivial ?_
    refine sc_pi (pc3 := 15) (cf_V (idx := 208) (ci := 6) [.int (J 1), .int (J 16)] m_gm_sees (by decide) ⟨by decide, by decide⟩ (List.mem_of_getElem? (i := 1757) (by decide +kernel)) rfl (Nat.le_of_ble_eq_true rfl) h1 (by decide +kernel) (Nat.le_of_ble_eq_true rfl) rfl) (ok_gm_sees a0 (J 1) (J 16) S w3) rfl (fun x4 w5 => ?_)
    refine sim_ne0 (o := 5) (tg := 20) (f := 18) (by decide +kernel) rfl rfl (fun _ => ?_) (fun _ => ?_)
    · refine sim_seg [(.iconst 0, 0, 0, 0)] [] (q := 19) (L' := [some (.ref a0)]) (st' := [.int (J 0)]) (v1 := w5) (by decide +kernel) rfl trivial ?_
      exact sim_iret (by decide +kernel) rfl (by decide) rfl
    · refine sim_seg [(.aload_n 0, 0, 0, 0), (.getfield 205, 6, 26, 0)] [] (q := 24) (L' := [some (.ref a0)]) (st' := [.int (gi w5 a0 26)]) (v1 := w5) (by decide +kernel) rfl ⟨h1, trivial⟩ ?_
      refine sc_ri (pc3 := 27) (cf_S (idx := 232) [.int (gi w5 a0 26)] m_gm_mayBeP ⟨by decide, by decide⟩ (List.mem_of_getElem? (i := 1784) (by decide +kernel)) rfl (Nat.le_of_ble_eq_true rfl) (by decide +kernel) (Nat.le_of_ble_eq_true rfl) rfl) (ok_gm_mayBeP (gi w5 a0 26) S w5) rfl (fun x6 => ?_)
      refine sim_ne0 (o := 9) (tg := 36) (f := 30) (by decide +kernel) rfl rfl (fun _ => ?_) (fun _ => ?_)
      · refine sim_seg [(.aload_n 0, 0, 0, 0), (.iconst 2, 0, 0, 2)] [] (q := 32) (L' := [some (.ref a0)]) (st' := [.int (J 2), .ref a0]) (v1 := w5) (by decide +kernel) rfl trivial ?_
        refine sc_pi (pc3 := 35) (cf_V (idx := 202) (ci := 6) [.int (J 2)] m_gm_failsAt (by decide) ⟨by decide, by decide⟩ (List.mem_of_getElem? (i := 1749) (by decide +kernel)) rfl (Nat.le_of_ble_eq_true rfl) h1 (by decide +kernel) (Nat.le_of_ble_eq_true rfl) rfl) (ok_gm_failsAt a0 (J 2) S w5) rfl (fun x7 w8 => ?_)
        refine sim_grd fun h9 => ?_
        exact sim_iret (by decide +kernel) rfl h9 rfl
      · refine sim_bind fun r10 h11 => ?_
        refine sim_grd fun h12 => ?_
        refine sim_seg [(.aload_n 0, 0, 0, 0), (.getfield 7, 6, 0, 0), (.iconst 4, 0, 0, 4), (.aload_n 0, 0, 0, 0), (.getfield 205, 6, 26, 0), (.iastore, 0, 0, 0), (.aload_n 0, 0, 0, 0)] [r10] (q := 47) (L' := [some (.ref a0)]) (st' := [.ref a0]) (v1 := (si w5 r10 4 (gi w5 a0 26))) (by decide +kernel) rfl ⟨⟨h1, h11⟩, h1, ⟨(kin_alen h12), (vin_J h12 (by unfold vp_in; decide))⟩, trivial⟩ ?_
        refine sim_lt (x := (si w5 r10 4 (gi w5 a0 26))) ?_
        generalize (si w5 r10 4 (gi w5 a0 26)) = w13
        refine sc_pv (pc3 := 50) (cf_V (idx := 199) (ci := 6) [] m_gm_advanceToken (by decide) ⟨by decide, by decide⟩ (List.mem_of_getElem? (i := 1722) (by decide +kernel)) rfl (Nat.le_of_ble_eq_true rfl) h1 (by decide +kernel) (Nat.le_of_ble_eq_true rfl) rfl) (ok_gm_advanceToken N a0 S w13) rfl (fun w14 => ?_)
        refine sim_seg [(.iconst 1, 0, 0, 1)] [] (q := 51) (L' := [some (.ref a0)]) (st' := [.int (J 1)]) (v1 := w14) (by decide +kernel) rfl trivial ?_
        exact sim_iret (by decide +kernel) rfl (by decide) rfl
