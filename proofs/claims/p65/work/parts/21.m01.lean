/-! Methods: ck_init, sg_init, ck_start, sg_setUpPrescaler, sg_clear, st_clear, st_init, tx_init, ab_init, sb_init, gc_init, tx_byteAt, tx_isSpace, tx_kindOf, tx_readDigits, tx_advance, tx_fail, js_isLatin1, pr_checkIndex, js_checkIndex, l1_charAt, js_charAt, js_coder, js_length, tx_isWord, tx_takeNumber, tx_takeSemicolon, tx_takeSigned. -/
def B_ck_init : bd := (⟨"GateCounter$Clock", "<init>", "()V"⟩, prog_2_method_1_code, 1, none, [], 0, 1)
theorem m_ck_init : mI B_ck_init 0 := ⟨⟨⟨by decide +kernel, Or.inl rfl⟩, rfl, (List.mem_of_getElem? (i := 93) (by decide +kernel)), by decide +kernel, (List.mem_of_getElem? (i := 60) (by decide +kernel)), ⟨by decide, by decide⟩, by decide⟩, rfl, rfl, (by unfold nar; decide +kernel), (List.mem_of_getElem? (i := 92) (by decide +kernel)), rfl⟩
noncomputable def F_ck_init (a0 : Nat) (S : shp) (v : vl) : Option Unit :=
  some (())
theorem ok_ck_init (a0 : Nat) (S : shp) (v : vl) : SimK B_ck_init 0 (entB (bN B_ck_init) [.ref a0]) [] S v (F_ck_init a0 S v) (ρrv S v) := by
  show SimK B_ck_init 0 [some (.ref a0)] [] S v (F_ck_init a0 S v) _
  unfold F_ck_init
  refine sim_seg [(.aload_n 0, 0, 0, 0)] [] (q := 1) (L' := [some (.ref a0)]) (st' := [.ref a0]) (v1 := v) (by decide +kernel) rfl trivial ?_
  refine sim_oinit (idx := 5) (pc3 := 4) (by decide +kernel) (List.mem_of_getElem? (i := 94) (by decide +kernel)) (by decide) (Nat.le_of_ble_eq_true rfl) rfl ?_
  exact sim_vret (by decide +kernel) rfl rfl
def B_sg_init : bd := (⟨"GateCounter$Signal", "<init>", "()V"⟩, prog_5_method_1_code, 1, none, [], 3, 1)
theorem m_sg_init : mI B_sg_init 0 := ⟨⟨⟨by decide +kernel, Or.inl rfl⟩, rfl, (List.mem_of_getElem? (i := 133) (by decide +kernel)), by decide +kernel, (List.mem_of_getElem? (i := 61) (by decide +kernel)), ⟨by decide, by decide⟩, by decide⟩, rfl, rfl, (by unfold nar; decide +kernel), (List.mem_of_getElem? (i := 132) (by decide +kernel)), rfl⟩
noncomputable def F_sg_init (a0 : Nat) (S : shp) (v : vl) : Option (shp × vl) :=
  grd (kin S (nxt S) = none) <| lt3 (grow S (1, 8) 8) (nxt S) (zero v (nxt S)) fun S2 r3 v4 => grd (kin S2 a0 = some (0, 3)) <| lt (sr S2 a0 10 (some r3)) fun S8 => grd (kin S8 (nxt S8) = none) <| lt3 (grow S8 (1, 8) 8) (nxt S8) (zero v4 (nxt S8)) fun S11 r12 v13 => grd (kin S11 a0 = some (0, 3)) <| lt (sr S11 a0 11 (some r12)) fun S17 => some ((S17, v13))
theorem ok_sg_init (a0 : Nat) (S : shp) (v : vl) : SimK B_sg_init 0 (entB (bN B_sg_init) [.ref a0]) [] S v (F_sg_init a0 S v) (ρgv) := by
  show SimK B_sg_init 0 [some (.ref a0)] [] S v (F_sg_init a0 S v) _
  unfold F_sg_init
  refine sim_seg [(.aload_n 0, 0, 0, 0)] [] (q := 1) (L' := [some (.ref a0)]) (st' := [.ref a0]) (v1 := v) (by decide +kernel) rfl trivial ?_
  refine sim_oinit (idx := 3) (pc3 := 4) (by decide +kernel) (List.mem_of_getElem? (i := 134) (by decide +kernel)) (by decide) (Nat.le_of_ble_eq_true rfl) rfl ?_
  refine sim_seg [(.aload_n 0, 0, 0, 0), (.bipush 8, 0, 0, 8)] [] (q := 7) (L' := [some (.ref a0)]) (st' := [.int (J 8), .ref a0]) (v1 := v) (by decide +kernel) rfl trivial ?_
  refine sim_grd fun h1 => ?_
  refine sim_newa (ty := 0) (N := 8) (pc3 := 9) (by decide) (by decide +kernel) rfl (by decide) (by decide) (by decide) h1 (fun S2 r3 v4 h5 h6 => ?_)
  refine sim_grd fun h7 => ?_
  refine sim_putr (idx := 9) (ci := 3) (m := 10) (pc3 := 12) (by decide +kernel) (by decide) (Or.inr ⟨rfl, rfl⟩) h7 rfl rfl (fun S8 h9 => ?_)
  refine sim_seg [(.aload_n 0, 0, 0, 0), (.bipush 8, 0, 0, 8)] [] (q := 15) (L' := [some (.ref a0)]) (st' := [.int (J 8), .ref a0]) (v1 := v4) (by decide +kernel) rfl trivial ?_
  refine sim_grd fun h10 => ?_
  refine sim_newa (ty := 0) (N := 8) (pc3 := 17) (by decide) (by decide +kernel) rfl (by decide) (by decide) (by decide) h10 (fun S11 r12 v13 h14 h15 => ?_)
  refine sim_grd fun h16 => ?_
  refine sim_putr (idx := 15) (ci := 3) (m := 11) (pc3 := 20) (by decide +kernel) (by decide) (Or.inr ⟨rfl, rfl⟩) h16 rfl rfl (fun S17 h18 => ?_)
  exact sim_vret (by decide +kernel) rfl rfl
def B_ck_start : bd := (⟨"GateCounter$Clock", "start", "(III)V"⟩, prog_2_method_2_code, 4, none, [], 0, 0)
theorem m_ck_start : mV B_ck_start 0 3 := ⟨⟨⟨by decide +kernel, Or.inl rfl⟩, rfl, (List.mem_of_getElem? (i := 193) (by decide +kernel)), by decide +kernel, (List.mem_of_getElem? (i := 60) (by decide +kernel)), ⟨by decide, by decide⟩, by decide⟩, rfl, (by unfold nar; decide +kernel), (List.mem_of_getElem? (i := 191) (by decide +kernel)), rfl, (List.mem_of_getElem? (i := 192) (by decide +kernel))⟩
noncomputable def F_ck_start (a0 : Nat) (b1 : Int32) (b2 : Int32) (b3 : Int32) (S : shp) (v : vl) : Option vl :=
  grd (kin S a0 = some (0, 0)) <| lt (si (si (si (si v a0 0 b1) a0 1 b2) a0 2 b3) a0 3 (J 0)) fun w2 => lt (si (si (si w2 a0 4 b1) a0 5 (J 0)) a0 6 (J 0)) fun w3 => some (w3)
theorem ok_ck_start (a0 : Nat) (b1 : Int32) (b2 : Int32) (b3 : Int32) (S : shp) (v : vl) : SimK B_ck_start 0 (entB (bN B_ck_start) [.ref a0, .int b1, .int b2, .int b3]) [] S v (F_ck_start a0 b1 b2 b3 S v) (ρpv S) := by
  show SimK B_ck_start 0 [some (.ref a0), some (.int b1), some (.int b2), some (.int b3)] [] S v (F_ck_start a0 b1 b2 b3 S v) _
  unfold F_ck_start
  refine sim_grd fun h1 => ?_
  refine sim_seg [(.aload_n 0, 0, 0, 0), (.iload_n 1, 0, 0, 0), (.putfield 11, 0, 0, 0), (.aload_n 0, 0, 0, 0), (.iload_n 2, 0, 0, 0), (.putfield 15, 0, 1, 0), (.aload_n 0, 0, 0, 0), (.iload_n 3, 0, 0, 0), (.putfield 18, 0, 2, 0), (.aload_n 0, 0, 0, 0), (.iconst 0, 0, 0, 0), (.putfield 21, 0, 3, 0)] [] (q := 20) (L' := [some (.ref a0), some (.int b1), some (.int b2), some (.int b3)]) (st' := []) (v1 := (si (si (si (si v a0 0 b1) a0 1 b2) a0 2 b3) a0 3 (J 0))) (by decide +kernel) rfl ⟨h1, h1, h1, h1, trivial⟩ ?_
  refine sim_lt (x := (si (si (si (si v a0 0 b1) a0 1 b2) a0 2 b3) a0 3 (J 0))) ?_
  generalize (si (si (si (si v a0 0 b1) a0 1 b2) a0 2 b3) a0 3 (J 0)) = w2
  refine sim_seg [(.aload_n 0, 0, 0, 0), (.iload_n 1, 0, 0, 0), (.putfield 24, 0, 4, 0), (.aload_n 0, 0, 0, 0), (.iconst 0, 0, 0, 0), (.putfield 27, 0, 5, 0), (.aload_n 0, 0, 0, 0), (.iconst 0, 0, 0, 0), (.putfield 30, 0, 6, 0)] [] (q := 35) (L' := [some (.ref a0), some (.int b1), some (.int b2), some (.int b3)]) (st' := []) (v1 := (si (si (si w2 a0 4 b1) a0 5 (J 0)) a0 6 (J 0))) (by decide +kernel) rfl ⟨h1, h1, h1, trivial⟩ ?_
  refine sim_lt (x := (si (si (si w2 a0 4 b1) a0 5 (J 0)) a0 6 (J 0))) ?_
  generalize (si (si (si w2 a0 4 b1) a0 5 (J 0)) a0 6 (J 0)) = w3
  exact sim_vret (by decide +kernel) rfl rfl
def B_sg_setUpPrescaler : bd := (⟨"GateCounter$Signal", "setUpPrescaler", "(I)V"⟩, prog_5_method_4_code, 2, none, [], 3, 0)
theorem m_sg_setUpPrescaler : mV B_sg_setUpPrescaler 3 1 := ⟨⟨⟨by decide +kernel, Or.inl rfl⟩, rfl, (List.mem_of_getElem? (i := 201) (by decide +kernel)), by decide +kernel, (List.mem_of_getElem? (i := 61) (by decide +kernel)), ⟨by decide, by decide⟩, by decide⟩, rfl, (by unfold nar; decide +kernel), (List.mem_of_getElem? (i := 199) (by decide +kernel)), rfl, (List.mem_of_getElem? (i := 200) (by decide +kernel))⟩
noncomputable def F_sg_setUpPrescaler (a0 : Nat) (b1 : Int32) (S : shp) (v : vl) : Option vl :=
  grd (kin S a0 = some (0, 3)) <| lt (si (si v a0 4 b1) a0 5 (J 0)) fun w2 => lt (si w2 a0 6 (gi w2 a0 2)) fun w3 => lt (si w3 a0 7 (gi w3 a0 3)) fun w4 => some (w4)
theorem ok_sg_setUpPrescaler (a0 : Nat) (b1 : Int32) (S : shp) (v : vl) : SimK B_sg_setUpPrescaler 0 (entB (bN B_sg_setUpPrescaler) [.ref a0, .int b1]) [] S v (F_sg_setUpPrescaler a0 b1 S v) (ρpv S) := by
  show SimK B_sg_setUpPrescaler 0 [some (.ref a0), some (.int b1)] [] S v (F_sg_setUpPrescaler a0 b1 S v) _
  unfold F_sg_setUpPrescaler
  refine sim_grd fun h1 => ?_
  refine sim_seg [(.aload_n 0, 0, 0, 0), (.iload_n 1, 0, 0, 0), (.putfield 41, 3, 4, 0), (.aload_n 0, 0, 0, 0), (.iconst 0, 0, 0, 0), (.putfield 44, 3, 5, 0), (.aload_n 0, 0, 0, 0), (.aload_n 0, 0, 0, 0)] [] (q := 12) (L' := [some (.ref a0), some (.int b1)]) (st' := [.ref a0, .ref a0]) (v1 := (si (si v a0 4 b1) a0 5 (J 0))) (by decide +kernel) rfl ⟨h1, h1, trivial⟩ ?_
  refine sim_lt (x := (si (si v a0 4 b1) a0 5 (J 0))) ?_
  generalize (si (si v a0 4 b1) a0 5 (J 0)) = w2
  refine sim_seg [(.getfield 25, 3, 2, 0), (.putfield 47, 3, 6, 0), (.aload_n 0, 0, 0, 0), (.aload_n 0, 0, 0, 0)] [] (q := 20) (L' := [some (.ref a0), some (.int b1)]) (st' := [.ref a0, .ref a0]) (v1 := (si w2 a0 6 (gi w2 a0 2))) (by decide +kernel) rfl ⟨h1, h1, trivial⟩ ?_
  refine sim_lt (x := (si w2 a0 6 (gi w2 a0 2))) ?_
  generalize (si w2 a0 6 (gi w2 a0 2)) = w3
  refine sim_seg [(.getfield 28, 3, 3, 0), (.putfield 50, 3, 7, 0)] [] (q := 26) (L' := [some (.ref a0), some (.int b1)]) (st' := []) (v1 := (si w3 a0 7 (gi w3 a0 3))) (by decide +kernel) rfl ⟨h1, h1, trivial⟩ ?_
  refine sim_lt (x := (si w3 a0 7 (gi w3 a0 3))) ?_
  generalize (si w3 a0 7 (gi w3 a0 3)) = w4
  exact sim_vret (by decide +kernel) rfl rfl
def B_sg_clear : bd := (⟨"GateCounter$Signal", "clear", "()V"⟩, prog_5_method_2_code, 1, none, [], 3, 1)
theorem m_sg_clear : mV B_sg_clear 3 0 := ⟨⟨⟨by decide +kernel, Or.inl rfl⟩, rfl, (List.mem_of_getElem? (i := 197) (by decide +kernel)), by decide +kernel, (List.mem_of_getElem? (i := 61) (by decide +kernel)), ⟨by decide, by decide⟩, by decide⟩, rfl, (by unfold nar; decide +kernel), (List.mem_of_getElem? (i := 195) (by decide +kernel)), rfl, (List.mem_of_getElem? (i := 196) (by decide +kernel))⟩
noncomputable def F_sg_clear (a0 : Nat) (S : shp) (v : vl) : Option vl :=
  grd (kin S a0 = some (0, 3)) <| lt (si (si (si (si v a0 0 (J 0)) a0 1 (J (-1))) a0 2 (J 0)) a0 3 (J 0)) fun w2 => (F_sg_setUpPrescaler a0 (J 1) S w2).bind fun w3 => lt (si (si w3 a0 8 (J 0)) a0 9 (J 0)) fun w4 => some (w4)
theorem ok_sg_clear (a0 : Nat) (S : shp) (v : vl) : SimK B_sg_clear 0 (entB (bN B_sg_clear) [.ref a0]) [] S v (F_sg_clear a0 S v) (ρpv S) := by
  show SimK B_sg_clear 0 [some (.ref a0)] [] S v (F_sg_clear a0 S v) _
  unfold F_sg_clear
  refine sim_grd fun h1 => ?_
  refine sim_seg [(.aload_n 0, 0, 0, 0), (.iconst 0, 0, 0, 0), (.putfield 18, 3, 0, 0), (.aload_n 0, 0, 0, 0), (.iconst (-1), 0, 0, (-1)), (.putfield 22, 3, 1, 0), (.aload_n 0, 0, 0, 0), (.iconst 0, 0, 0, 0), (.putfield 25, 3, 2, 0), (.aload_n 0, 0, 0, 0), (.iconst 0, 0, 0, 0), (.putfield 28, 3, 3, 0)] [] (q := 20) (L' := [some (.ref a0)]) (st' := []) (v1 := (si (si (si (si v a0 0 (J 0)) a0 1 (J (-1))) a0 2 (J 0)) a0 3 (J 0))) (by decide +kernel) rfl ⟨h1, h1, h1, h1, trivial⟩ ?_
  refine sim_lt (x := (si (si (si (si v a0 0 (J 0)) a0 1 (J (-1))) a0 2 (J 0)) a0 3 (J 0))) ?_
  generalize (si (si (si (si v a0 0 (J 0)) a0 1 (J (-1))) a0 2 (J 0)) a0 3 (J 0)) = w2
  refine sim_seg [(.aload_n 0, 0, 0, 0), (.iconst 1, 0, 0, 1)] [] (q := 22) (L' := [some (.ref a0)]) (st' := [.int (J 1), .ref a0]) (v1 := w2) (by decide +kernel) rfl trivial ?_
  refine sc_pv (pc3 := 25) (cf_V (idx := 31) (ci := 3) [.int (J 1)] m_sg_setUpPrescaler (by decide) ⟨by decide, by decide⟩ (List.mem_of_getElem? (i := 198) (by decide +kernel)) rfl (Nat.le_of_ble_eq_true rfl) h1 (by decide +kernel) (Nat.le_of_ble_eq_true rfl) rfl) (ok_sg_setUpPrescaler a0 (J 1) S w2) rfl (fun w3 => ?_)
  refine sim_seg [(.aload_n 0, 0, 0, 0), (.iconst 0, 0, 0, 0), (.putfield 35, 3, 8, 0), (.aload_n 0, 0, 0, 0), (.iconst 0, 0, 0, 0), (.putfield 38, 3, 9, 0)] [] (q := 35) (L' := [some (.ref a0)]) (st' := []) (v1 := (si (si w3 a0 8 (J 0)) a0 9 (J 0))) (by decide +kernel) rfl ⟨h1, h1, trivial⟩ ?_
  refine sim_lt (x := (si (si w3 a0 8 (J 0)) a0 9 (J 0))) ?_
  generalize (si (si w3 a0 8 (J 0)) a0 9 (J 0)) = w4
  exact sim_vret (by decide +kernel) rfl rfl
def B_st_clear : bd := (⟨"GateCounter$State", "clear", "()V"⟩, prog_6_method_2_code, 1, none, [], 4, 2)
theorem m_st_clear : mV B_st_clear 4 0 := ⟨⟨⟨by decide +kernel, Or.inl rfl⟩, rfl, (List.mem_of_getElem? (i := 189) (by decide +kernel)), by decide +kernel, (List.mem_of_getElem? (i := 59) (by decide +kernel)), ⟨by decide, by decide⟩, by decide⟩, rfl, (by unfold nar; decide +kernel), (List.mem_of_getElem? (i := 187) (by decide +kernel)), rfl, (List.mem_of_getElem? (i := 188) (by decide +kernel))⟩
noncomputable def F_st_clear (a0 : Nat) (S : shp) (v : vl) : Option vl :=
  grd (kin S a0 = some (0, 4)) <| lt (si (si (si (si v a0 0 (J 0)) a0 1 (J 10)) a0 2 (J 1)) a0 3 (J 0)) fun w2 => lt (si (si w2 a0 4 (J 0)) a0 5 (J 0)) fun w3 => (gr S a0 6).bind fun r4 => grd (kin S r4 = some (0, 0)) <| (F_ck_start r4 (J 10) (J 0) (J 0) S w3).bind fun w7 => (gr S a0 7).bind fun r8 => grd (kin S r8 = some (0, 3)) <| (F_sg_clear r8 S w7).bind fun w11 => some (w11)
theorem ok_st_clear (a0 : Nat) (S : shp) (v : vl) : SimK B_st_clear 0 (entB (bN B_st_clear) [.ref a0]) [] S v (F_st_clear a0 S v) (ρpv S) := by
  show SimK B_st_clear 0 [some (.ref a0)] [] S v (F_st_clear a0 S v) _
  unfold F_st_clear
  refine sim_grd fun h1 => ?_
  refine sim_seg [(.aload_n 0, 0, 0, 0), (.iconst 0, 0, 0, 0), (.putfield 34, 4, 0, 0), (.aload_n 0, 0, 0, 0), (.bipush 10, 0, 0, 10), (.putfield 38, 4, 1, 0), (.aload_n 0, 0, 0, 0), (.iconst 1, 0, 0, 1), (.putfield 41, 4, 2, 0), (.aload_n 0, 0, 0, 0), (.iconst 0, 0, 0, 0), (.putfield 44, 4, 3, 0)] [] (q := 21) (L' := [some (.ref a0)]) (st' := []) (v1 := (si (si (si (si v a0 0 (J 0)) a0 1 (J 10)) a0 2 (J 1)) a0 3 (J 0))) (by decide +kernel) rfl ⟨h1, h1, h1, h1, trivial⟩ ?_
  refine sim_lt (x := (si (si (si (si v a0 0 (J 0)) a0 1 (J 10)) a0 2 (J 1)) a0 3 (J 0))) ?_
  generalize (si (si (si (si v a0 0 (J 0)) a0 1 (J 10)) a0 2 (J 1)) a0 3 (J 0)) = w2
  refine sim_seg [(.aload_n 0, 0, 0, 0), (.iconst 0, 0, 0, 0), (.putfield 47, 4, 4, 0), (.aload_n 0, 0, 0, 0), (.iconst 0, 0, 0, 0), (.putfield 50, 4, 5, 0), (.aload_n 0, 0, 0, 0)] [] (q := 32) (L' := [some (.ref a0)]) (st' := [.ref a0]) (v1 := (si (si w2 a0 4 (J 0)) a0 5 (J 0))) (by decide +kernel) rfl ⟨h1, h1, trivial⟩ ?_
  refine sim_lt (x := (si (si w2 a0 4 (J 0)) a0 5 (J 0))) ?_
  generalize (si (si w2 a0 4 (J 0)) a0 5 (J 0)) = w3
  refine sim_bind fun r4 h5 => ?_
  refine sim_seg [(.getfield 12, 4, 6, 0), (.bipush 10, 0, 0, 10), (.iconst 0, 0, 0, 0), (.iconst 0, 0, 0, 0)] [r4] (q := 39) (L' := [some (.ref a0)]) (st' := [.int (J 0), .int (J 0), .int (J 10), .ref r4]) (v1 := w3) (by decide +kernel) rfl ⟨⟨h1, h5⟩, trivial⟩ ?_
  refine sim_grd fun h6 => ?_
  refine sc_pv (pc3 := 42) (cf_V (idx := 53) (ci := 0) [.int (J 10), .int (J 0), .int (J 0)] m_ck_start (by decide) ⟨by decide, by decide⟩ (List.mem_of_getElem? (i := 190) (by decide +kernel)) rfl (Nat.le_of_ble_eq_true rfl) h6 (by decide +kernel) (Nat.le_of_ble_eq_true rfl) rfl) (ok_ck_start r4 (J 10) (J 0) (J 0) S w3) rfl (fun w7 => ?_)
  refine sim_bind fun r8 h9 => ?_
  refine sim_seg [(.aload_n 0, 0, 0, 0), (.getfield 21, 4, 7, 0)] [r8] (q := 46) (L' := [some (.ref a0)]) (st' := [.ref r8]) (v1 := w7) (by decide +kernel) rfl ⟨⟨h1, h9⟩, trivial⟩ ?_
  refine sim_grd fun h10 => ?_
  refine sc_pv (pc3 := 49) (cf_V (idx := 57) (ci := 3) [] m_sg_clear (by decide) ⟨by decide, by decide⟩ (List.mem_of_getElem? (i := 194) (by decide +kernel)) rfl (Nat.le_of_ble_eq_true rfl) h10 (by decide +kernel) (Nat.le_of_ble_eq_true rfl) rfl) (ok_sg_clear r8 S w7) rfl (fun w11 => ?_)
  exact sim_vret (by decide +kernel) rfl rfl
def B_st_init : bd := (⟨"GateCounter$State", "<init>", "()V"⟩, prog_6_method_1_code, 1, none, [], 4, 3)
theorem m_st_init : mI B_st_init 0 := ⟨⟨⟨by decide +kernel, Or.inl rfl⟩, rfl, (List.mem_of_getElem? (i := 87) (by decide +kernel)), by decide +kernel, (List.mem_of_getElem? (i := 59) (by decide +kernel)), ⟨by decide, by decide⟩, by decide⟩, rfl, rfl, (by unfold nar; decide +kernel), (List.mem_of_getElem? (i := 86) (by decide +kernel)), rfl⟩
noncomputable def F_st_init (a0 : Nat) (S : shp) (v : vl) : Option (shp × vl) :=
  grd (kin S (nxt S) = none) <| lt3 (grow S (0, 0) (fTN 0).2.1) (nxt S) (zero v (nxt S)) fun S2 r3 v4 => (F_ck_init r3 S2 v4).bind fun _ => grd (kin S2 a0 = some (0, 4)) <| lt (sr S2 a0 6 (some r3)) fun S8 => grd (kin S8 (nxt S8) = none) <| lt3 (grow S8 (0, 3) (fTN 3).2.1) (nxt S8) (zero v4 (nxt S8)) fun S11 r12 v13 => (F_sg_init r12 S11 v13).bind fun (S16, w17) => grd (kin S16 a0 = some (0, 4)) <| lt (sr S16 a0 7 (some r12)) fun S20 => grd (kin S20 (nxt S20) = none) <| lt3 (grow S20 (5, 20) 20) (nxt S20) (zero w17 (nxt S20)) fun S23 r24 v25 => grd (kin S23 a0 = some (0, 4)) <| lt (sr S23 a0 8 (some r24)) fun S29 => (F_st_clear a0 S29 v25).bind fun w31 => some ((S29, w31))
theorem ok_st_init (a0 : Nat) (S : shp) (v : vl) : SimK B_st_init 0 (entB (bN B_st_init) [.ref a0]) [] S v (F_st_init a0 S v) (ρgv) := by
  show SimK B_st_init 0 [some (.ref a0)] [] S v (F_st_init a0 S v) _
  unfold F_st_init
  refine sim_seg [(.aload_n 0, 0, 0, 0)] [] (q := 1) (L' := [some (.ref a0)]) (st' := [.ref a0]) (v1 := v) (by decide +kernel) rfl trivial ?_
  refine sim_oinit (idx := 3) (pc3 := 4) (by decide +kernel) (List.mem_of_getElem? (i := 88) (by decide +kernel)) (by decide) (Nat.le_of_ble_eq_true rfl) rfl ?_
  refine sim_seg [(.aload_n 0, 0, 0, 0)] [] (q := 5) (L' := [some (.ref a0)]) (st' := [.ref a0]) (v1 := v) (by decide +kernel) rfl trivial ?_
  refine sim_grd fun h1 => ?_
  refine sim_new (idx := 9) (ci := 0) (pc3 := 8) (by decide) (by decide +kernel) (List.mem_of_getElem? (i := 89) (by decide +kernel)) (List.mem_of_getElem? (i := 90) (by decide +kernel)) (List.mem_of_getElem? (i := 60) (by decide +kernel)) rfl h1 (fun S2 r3 v4 h5 h6 => ?_)
  refine sim_seg [(.dup, 0, 0, 0)] [] (q := 9) (L' := [some (.ref a0)]) (st' := [.ref r3, .ref r3, .ref a0]) (v1 := v4) (by decide +kernel) rfl trivial ?_
  refine sc_rv (pc3 := 12) (cf_IN (idx := 11) (host := "GateCounter") [] m_ck_init ⟨by decide, by decide⟩ (by decide +kernel) rfl (Nat.le_of_ble_eq_true rfl) (by decide +kernel) (Nat.le_of_ble_eq_true rfl) rfl) (ok_ck_init r3 S2 v4) rfl (fun _ => ?_)
  refine sim_grd fun h7 => ?_
  refine sim_putr (idx := 12) (ci := 4) (m := 6) (pc3 := 15) (by decide +kernel) (by decide) (Or.inr ⟨rfl, rfl⟩) h7 rfl rfl (fun S8 h9 => ?_)
  refine sim_seg [(.aload_n 0, 0, 0, 0)] [] (q := 16) (L' := [some (.ref a0)]) (st' := [.ref a0]) (v1 := v4) (by decide +kernel) rfl trivial ?_
  refine sim_grd fun h10 => ?_
  refine sim_new (idx := 18) (ci := 3) (pc3 := 19) (by decide) (by decide +kernel) (List.mem_of_getElem? (i := 129) (by decide +kernel)) (List.mem_of_getElem? (i := 130) (by decide +kernel)) (List.mem_of_getElem? (i := 61) (by decide +kernel)) rfl h10 (fun S11 r12 v13 h14 h15 => ?_)
  refine sim_seg [(.dup, 0, 0, 0)] [] (q := 20) (L' := [some (.ref a0)]) (st' := [.ref r12, .ref r12, .ref a0]) (v1 := v13) (by decide +kernel) rfl trivial ?_
  refine sc_gv (pc3 := 23) (cf_I (idx := 20) [] m_sg_init ⟨by decide, by decide⟩ (List.mem_of_getElem? (i := 131) (by decide +kernel)) rfl (Nat.le_of_ble_eq_true rfl) (by decide +kernel) (Nat.le_of_ble_eq_true rfl) rfl) (ok_sg_init r12 S11 v13) rfl (fun S16 w17 h18 => ?_)
  refine sim_grd fun h19 => ?_
  refine sim_putr (idx := 21) (ci := 4) (m := 7) (pc3 := 26) (by decide +kernel) (by decide) (Or.inr ⟨rfl, rfl⟩) h19 rfl rfl (fun S20 h21 => ?_)
  refine sim_seg [(.aload_n 0, 0, 0, 0), (.bipush 20, 0, 0, 20)] [] (q := 29) (L' := [some (.ref a0)]) (st' := [.int (J 20), .ref a0]) (v1 := w17) (by decide +kernel) rfl trivial ?_
  refine sim_grd fun h22 => ?_
  refine sim_newq (idx := 25) (ty := 4) (N := 20) (pc3 := 32) (by decide) (by decide +kernel) (List.mem_of_getElem? (i := 184) (by decide +kernel)) rfl (by decide) (by decide) (by decide) h22 (fun S23 r24 v25 h26 h27 => ?_)
  refine sim_grd fun h28 => ?_
  refine sim_putr (idx := 27) (ci := 4) (m := 8) (pc3 := 35) (by decide +kernel) (by decide) (Or.inr ⟨rfl, rfl⟩) h28 rfl rfl (fun S29 h30 => ?_)
  refine sim_seg [(.aload_n 0, 0, 0, 0)] [] (q := 36) (L' := [some (.ref a0)]) (st' := [.ref a0]) (v1 := v25) (by decide +kernel) rfl trivial ?_
  refine sc_pv (pc3 := 39) (cf_V (idx := 31) (ci := 4) [] m_st_clear (by decide) ⟨by decide, by decide⟩ (List.mem_of_getElem? (i := 186) (by decide +kernel)) rfl (Nat.le_of_ble_eq_true rfl) (h30.2.2.2.2 _ _ h28) (by decide +kernel) (Nat.le_of_ble_eq_true rfl) rfl) (ok_st_clear a0 S29 v25) rfl (fun w31 => ?_)
  exact sim_vret (by decide +kernel) rfl rfl
def B_tx_init : bd := (⟨"GateCounter$SetupText", "<init>", "()V"⟩, prog_4_method_1_code, 1, none, [], 2, 4)
theorem m_tx_init : mI B_tx_init 0 := ⟨⟨⟨by decide +kernel, Or.inl rfl⟩, rfl, (List.mem_of_getElem? (i := 81) (by decide +kernel)), by decide +kernel, (List.mem_of_getElem? (i := 58) (by decide +kernel)), ⟨by decide, by decide⟩, by decide⟩, rfl, rfl, (by unfold nar; decide +kernel), (List.mem_of_getElem? (i := 80) (by decide +kernel)), rfl⟩
noncomputable def F_tx_init (a0 : Nat) (S : shp) (v : vl) : Option (shp × vl) :=
  grd (kin S (nxt S) = none) <| lt3 (grow S (2, 500) 500) (nxt S) (zero v (nxt S)) fun S2 r3 v4 => grd (kin S2 a0 = some (0, 2)) <| lt (sr S2 a0 0 (some r3)) fun S8 => grd (kin S8 (nxt S8) = none) <| lt3 (grow S8 (0, 4) (fTN 4).2.1) (nxt S8) (zero v4 (nxt S8)) fun S11 r12 v13 => (F_st_init r12 S11 v13).bind fun (S16, w17) => grd (kin S16 a0 = some (0, 2)) <| lt (sr S16 a0 4 (some r12)) fun S20 => lt (si w17 a0 3 (J (-1))) fun w22 => some ((S20, w22))
theorem ok_tx_init (a0 : Nat) (S : shp) (v : vl) : SimK B_tx_init 0 (entB (bN B_tx_init) [.ref a0]) [] S v (F_tx_init a0 S v) (ρgv) := by
  show SimK B_tx_init 0 [some (.ref a0)] [] S v (F_tx_init a0 S v) _
  unfold F_tx_init
  refine sim_seg [(.aload_n 0, 0, 0, 0)] [] (q := 1) (L' := [some (.ref a0)]) (st' := [.ref a0]) (v1 := v) (by decide +kernel) rfl trivial ?_
  refine sim_oinit (idx := 3) (pc3 := 4) (by decide +kernel) (List.mem_of_getElem? (i := 82) (by decide +kernel)) (by decide) (Nat.le_of_ble_eq_true rfl) rfl ?_
  refine sim_seg [(.aload_n 0, 0, 0, 0), (.sipush 500, 0, 0, 500)] [] (q := 8) (L' := [some (.ref a0)]) (st' := [.int (J 500), .ref a0]) (v1 := v) (by decide +kernel) rfl trivial ?_
  refine sim_grd fun h1 => ?_
  refine sim_newa (ty := 1) (N := 500) (pc3 := 10) (by decide) (by decide +kernel) rfl (by decide) (by decide) (by decide) h1 (fun S2 r3 v4 h5 h6 => ?_)
  refine sim_grd fun h7 => ?_
  refine sim_putr (idx := 9) (ci := 2) (m := 0) (pc3 := 13) (by decide +kernel) (by decide) (Or.inr ⟨rfl, rfl⟩) h7 rfl rfl (fun S8 h9 => ?_)
  refine sim_seg [(.aload_n 0, 0, 0, 0)] [] (q := 14) (L' := [some (.ref a0)]) (st' := [.ref a0]) (v1 := v4) (by decide +kernel) rfl trivial ?_
  refine sim_grd fun h10 => ?_
  refine sim_new (idx := 15) (ci := 4) (pc3 := 17) (by decide) (by decide +kernel) (List.mem_of_getElem? (i := 83) (by decide +kernel)) (List.mem_of_getElem? (i := 84) (by decide +kernel)) (List.mem_of_getElem? (i := 59) (by decide +kernel)) rfl h10 (fun S11 r12 v13 h14 h15 => ?_)
  refine sim_seg [(.dup, 0, 0, 0)] [] (q := 18) (L' := [some (.ref a0)]) (st' := [.ref r12, .ref r12, .ref a0]) (v1 := v13) (by decide +kernel) rfl trivial ?_
  refine sc_gv (pc3 := 21) (cf_I (idx := 17) [] m_st_init ⟨by decide, by decide⟩ (List.mem_of_getElem? (i := 85) (by decide +kernel)) rfl (Nat.le_of_ble_eq_true rfl) (by decide +kernel) (Nat.le_of_ble_eq_true rfl) rfl) (ok_st_init r12 S11 v13) rfl (fun S16 w17 h18 => ?_)
  refine sim_grd fun h19 => ?_
  refine sim_putr (idx := 18) (ci := 2) (m := 4) (pc3 := 24) (by decide +kernel) (by decide) (Or.inr ⟨rfl, rfl⟩) h19 rfl rfl (fun S20 h21 => ?_)
  refine sim_seg [(.aload_n 0, 0, 0, 0), (.iconst (-1), 0, 0, (-1)), (.putfield 22, 2, 3, 0)] [] (q := 29) (L' := [some (.ref a0)]) (st' := []) (v1 := (si w17 a0 3 (J (-1)))) (by decide +kernel) rfl ⟨(h21.2.2.2.2 _ _ h19), trivial⟩ ?_
  refine sim_lt (x := (si w17 a0 3 (J (-1)))) ?_
  generalize (si w17 a0 3 (J (-1))) = w22
  exact sim_vret (by decide +kernel) rfl rfl
def B_ab_init : bd := (⟨"java/lang/AbstractStringBuilder", "<init>", "(I)V"⟩, prog_9_method_2_code, 2, none, [], 8, 1)
theorem m_ab_init : mI B_ab_init 1 := ⟨⟨⟨by decide +kernel, Or.inl rfl⟩, rfl, (List.mem_of_getElem? (i := 291) (by decide +kernel)), by decide +kernel, (List.mem_of_getElem? (i := 45) (by decide +kernel)), ⟨by decide, by decide⟩, by decide⟩, rfl, rfl, (by unfold nar; decide +kernel), (List.mem_of_getElem? (i := 290) (by decide +kernel)), rfl⟩
noncomputable def F_ab_init (a0 : Nat) (b1 : Int32) (S : shp) (v : vl) : Option (shp × vl) :=
  grd (¬ b1 < 0) <| grd ((Int32.toNatClampNeg b1) ≤ 65536) <| grd (kin S (nxt S) = none) <| lt3 (grow S (2, (Int32.toNatClampNeg b1)) (Int32.toNatClampNeg b1)) (nxt S) (zero v (nxt S)) fun S4 r5 v6 => grd (kin S4 a0 = some (0, 7)) <| lt (sr S4 a0 0 (some r5)) fun S10 => lt (si v6 a0 1 (J 0)) fun w12 => some ((S10, w12))
theorem ok_ab_init (a0 : Nat) (b1 : Int32) (S : shp) (v : vl) : SimK B_ab_init 0 (entB (bN B_ab_init) [.ref a0, .int b1]) [] S v (F_ab_init a0 b1 S v) (ρgv) := by
  show SimK B_ab_init 0 [some (.ref a0), some (.int b1)] [] S v (F_ab_init a0 b1 S v) _
  unfold F_ab_init
  refine sim_seg [(.aload_n 0, 0, 0, 0)] [] (q := 1) (L' := [some (.ref a0), some (.int b1)]) (st' := [.ref a0]) (v1 := v) (by decide +kernel) rfl trivial ?_
  refine sim_oinit (idx := 3) (pc3 := 4) (by decide +kernel) (List.mem_of_getElem? (i := 292) (by decide +kernel)) (by decide) (Nat.le_of_ble_eq_true rfl) rfl ?_
  refine sim_gets (idx := 18) (m := 1) (pc3 := 7) (by decide) (by decide +kernel) (show Cond.fieldLink (owns (bO B_ab_init)) 18 "java/lang/String" "COMPACT_STRINGS" "Z" ∈ tb2 from (List.mem_of_getElem? (i := 293) (by decide +kernel))) rfl ?_
  show SimK _ _ _ ([.int (J 1)]) _ _ _ _
  refine sim_ifF (c := (J 1) = (J 0)) (by decide) (sim_eq0 (o := 18) (tg := 25) (f := 10) (by decide +kernel) rfl rfl (fun _ => sim_none) (fun _ => ?_))
  refine sim_seg [(.aload_n 0, 0, 0, 0), (.iload_n 1, 0, 0, 0)] [] (q := 12) (L' := [some (.ref a0), some (.int b1)]) (st' := [.int b1, .ref a0]) (v1 := v) (by decide +kernel) rfl trivial ?_
  refine sim_grd fun h1 => ?_
  refine sim_grd fun h2 => ?_
  refine sim_grd fun h3 => ?_
  refine sim_newa (ty := 1) (N := (Int32.toNatClampNeg b1)) (pc3 := 14) (by decide) (by decide +kernel) rfl h1 rfl h2 h3 (fun S4 r5 v6 h7 h8 => ?_)
  refine sim_grd fun h9 => ?_
  refine sim_putr (idx := 15) (ci := 7) (m := 0) (pc3 := 17) (by decide +kernel) (by decide) (Or.inl rfl) h9 rfl rfl (fun S10 h11 => ?_)
  refine sim_seg [(.aload_n 0, 0, 0, 0), (.iconst 0, 0, 0, 0), (.putfield 22, 7, 1, 0), (.goto 16, 0, 0, 0)] [] (q := 38) (L' := [some (.ref a0), some (.int b1)]) (st' := []) (v1 := (si v6 a0 1 (J 0))) (by decide +kernel) rfl ⟨⟨(h11.2.2.2.2 _ _ h9), by decide⟩, trivial⟩ ?_
  refine sim_lt (x := (si v6 a0 1 (J 0))) ?_
  generalize (si v6 a0 1 (J 0)) = w12
  exact sim_vret (by decide +kernel) rfl rfl
def B_sb_init : bd := (⟨"java/lang/StringBuilder", "<init>", "()V"⟩, prog_20_method_1_code, 1, none, [], 7, 2)
theorem m_sb_init : mI B_sb_init 0 := ⟨⟨⟨by decide +kernel, Or.inl rfl⟩, rfl, (List.mem_of_getElem? (i := 288) (by decide +kernel)), by decide +kernel, (List.mem_of_getElem? (i := 46) (by decide +kernel)), ⟨by decide, by decide⟩, by decide⟩, rfl, rfl, (by unfold nar; decide +kernel), (List.mem_of_getElem? (i := 287) (by decide +kernel)), rfl⟩
noncomputable def F_sb_init (a0 : Nat) (S : shp) (v : vl) : Option (shp × vl) :=
  (F_ab_init a0 (J 16) S v).bind fun (S1, w2) => some ((S1, w2))
theorem ok_sb_init (a0 : Nat) (S : shp) (v : vl) : SimK B_sb_init 0 (entB (bN B_sb_init) [.ref a0]) [] S v (F_sb_init a0 S v) (ρgv) := by
  show SimK B_sb_init 0 [some (.ref a0)] [] S v (F_sb_init a0 S v) _
  unfold F_sb_init
  refine sim_seg [(.aload_n 0, 0, 0, 0), (.bipush 16, 0, 0, 16)] [] (q := 3) (L' := [some (.ref a0)]) (st' := [.int (J 16), .ref a0]) (v1 := v) (by decide +kernel) rfl trivial ?_
  refine sc_gv (pc3 := 6) (cf_I (idx := 1) [.int (J 16)] m_ab_init ⟨by decide, by decide⟩ (List.mem_of_getElem? (i := 289) (by decide +kernel)) rfl (Nat.le_of_ble_eq_true rfl) (by decide +kernel) (Nat.le_of_ble_eq_true rfl) rfl) (ok_ab_init a0 (J 16) S v) rfl (fun S1 w2 h3 => ?_)
  exact sim_vret (by decide +kernel) rfl rfl
def B_gc_init : bd := (⟨"GateCounter", "<init>", "()V"⟩, prog_1_method_1_code, 2, none, [], 5, 5)
theorem m_gc_init : mI B_gc_init 0 := ⟨⟨⟨by decide +kernel, Or.inl rfl⟩, rfl, (List.mem_of_getElem? (i := 73) (by decide +kernel)), by decide +kernel, (List.mem_of_getElem? (i := 57) (by decide +kernel)), ⟨by decide, by decide⟩, by decide⟩, rfl, rfl, (by unfold nar; decide +kernel), (List.mem_of_getElem? (i := 72) (by decide +kernel)), rfl⟩
noncomputable def Y_gc_init_81 (N : Nat)  (i81 : shp → vl → Nat → Int32 → Option (shp × vl))  (S : shp) (v : vl) (p0 : Nat) (p1 : Int32) : Option (shp × vl) :=
  (if p1 < (J 8) then grd (kin S p0 = some (0, 5)) <| (gr S p0 10).bind fun r83 => grd (kin S (nxt S) = none) <| lt3 (grow S (0, 4) (fTN 4).2.1) (nxt S) (zero v (nxt S)) fun S86 r87 v88 => (F_st_init r87 S86 v88).bind fun (S91, w92) => grd (kin S91 r83 = some (4, 8)) <| grd (vp_in p1 (alen S91 r83)) <| lt (sr S91 r83 (Int32.toNatClampNeg p1) (some r87)) fun S96 => i81 S96 w92 p0 (p1 + (J 1)) else some ((S, v)))
noncomputable def K_gc_init_81 (N : Nat)  (n : Nat)  : shp → vl → Nat → Int32 → Option (shp × vl) :=
  Nat.rec (motive := fun _ => shp → vl → Nat → Int32 → Option (shp × vl)) (fun _ _ _ _ => none) (fun _ i => Y_gc_init_81 N  i ) n
theorem sY_gc_init_81 (N : Nat)  (i81 : shp → vl → Nat → Int32 → Option (shp × vl))   (j81 : ∀ (S : shp) (v : vl) (p0 : Nat) (p1 : Int32), SimK B_gc_init 81 [some (.ref p0), some (.int p1)] [] S v (i81 S v p0 p1) (ρgv)) (S : shp) (v : vl) (p0 : Nat) (p1 : Int32) : SimK B_gc_init 81 [some (.ref p0), some (.int p1)] [] S v (Y_gc_init_81 N  i81  S v p0 p1) (ρgv) := by
  unfold Y_gc_init_81
  refine sim_seg [(.iload_n 1, 0, 0, 0), (.bipush 8, 0, 0, 8)] [] (q := 84) (L' := [some (.ref p0), some (.int p1)]) (st' := [.int (J 8), .int p1]) (v1 := v) (by decide +kernel) rfl trivial ?_
  refine sim_ge (o := 22) (tg := 106) (f := 87) (by decide +kernel) rfl rfl (fun _ => ?_) (fun _ => ?_)
  · refine sim_grd fun h82 => ?_
    refine sim_bind fun r83 h84 => ?_
    refine sim_seg [(.aload_n 0, 0, 0, 0), (.getfield 39, 5, 10, 0), (.iload_n 1, 0, 0, 0)] [r83] (q := 92) (L' := [some (.ref p0), some (.int p1)]) (st' := [.int p1, .ref r83]) (v1 := v) (by decide +kernel) rfl ⟨⟨h82, h84⟩, trivial⟩ ?_
    refine sim_grd fun h85 => ?_
    refine sim_new (idx := 23) (ci := 4) (pc3 := 95) (by decide) (by decide +kernel) (List.mem_of_getElem? (i := 315) (by decide +kernel)) (List.mem_of_getElem? (i := 84) (by decide +kernel)) (List.mem_of_getElem? (i := 59) (by decide +kernel)) rfl h85 (fun S86 r87 v88 h89 h90 => ?_)
    refine sim_seg [(.dup, 0, 0, 0)] [] (q := 96) (L' := [some (.ref p0), some (.int p1)]) (st' := [.ref r87, .ref r87, .int p1, .ref r83]) (v1 := v88) (by decide +kernel) rfl trivial ?_
    refine sc_gv (pc3 := 99) (cf_I (idx := 25) [] m_st_init ⟨by decide, by decide⟩ (List.mem_of_getElem? (i := 316) (by decide +kernel)) rfl (Nat.le_of_ble_eq_true rfl) (by decide +kernel) (Nat.le_of_ble_eq_true rfl) rfl) (ok_st_init r87 S86 v88) rfl (fun S91 w92 h93 => ?_)
    refine sim_grd fun h94 => ?_
    refine sim_grd fun h95 => ?_
    refine sim_aast (ty := 3) (ci := 4) (pc3 := 100) (Or.inl ⟨rfl, rfl⟩) (by decide +kernel) (kin_alen h94) h95 (h93.2.2.2.2 _ _ h90) rfl (fun S96 h97 => ?_)
    refine sim_seg [(.iinc 1 1, 0, 0, 1)] [] (q := 103) (L' := [some (.ref p0), some (.int (p1 + (J 1)))]) (st' := []) (v1 := w92) (by decide +kernel) rfl trivial ?_
    refine sim_seg [(.goto (-22), 0, 0, 0)] [] (q := 81) (L' := [some (.ref p0), some (.int (p1 + (J 1)))]) (st' := []) (v1 := w92) (by decide +kernel) rfl trivial ?_
    exact j81 S96 w92 p0 (p1 + (J 1))
  · exact sim_vret (by decide +kernel) rfl rfl
theorem sR_gc_init_81 (N : Nat)    (n : Nat) : ∀ (S : shp) (v : vl) (p0 : Nat) (p1 : Int32), SimK B_gc_init 81 [some (.ref p0), some (.int p1)] [] S v (K_gc_init_81 N  n  S v p0 p1) (ρgv) := by
  induction n with
  | zero => intro S v p0 p1; exact sim_none
  | succ k ih => intro S v p0 p1; exact sY_gc_init_81 N   _   ih S v p0 p1
theorem sK_gc_init_81 (N : Nat)   (n : Nat) (S : shp) (v : vl) (p0 : Nat) (p1 : Int32) : SimK B_gc_init 81 [some (.ref p0), some (.int p1)] [] S v (K_gc_init_81 N  n  S v p0 p1) (ρgv) := sR_gc_init_81 N    n  S v p0 p1
noncomputable def F_gc_init (N : Nat) (a0 : Nat) (S : shp) (v : vl) : Option (shp × vl) :=
  grd (kin S (nxt S) = none) <| lt3 (grow S (0, 2) (fTN 2).2.1) (nxt S) (zero v (nxt S)) fun S2 r3 v4 => (F_tx_init r3 S2 v4).bind fun (S7, w8) => grd (kin S7 a0 = some (0, 5)) <| lt (sr S7 a0 0 (some r3)) fun S11 => grd (kin S11 (nxt S11) = none) <| lt3 (grow S11 (0, 7) (fTN 7).2.1) (nxt S11) (zero w8 (nxt S11)) fun S14 r15 v16 => (F_sb_init r15 S14 v16).bind fun (S19, w20) => grd (kin S19 a0 = some (0, 5)) <| lt (sr S19 a0 1 (some r15)) fun S23 => grd (kin S23 (nxt S23) = none) <| lt3 (grow S23 (0, 4) (fTN 4).2.1) (nxt S23) (zero w20 (nxt S23)) fun S26 r27 v28 => (F_st_init r27 S26 v28).bind fun (S31, w32) => grd (kin S31 a0 = some (0, 5)) <| lt (sr S31 a0 5 (some r27)) fun S35 => grd (kin S35 (nxt S35) = none) <| lt3 (grow S35 (0, 4) (fTN 4).2.1) (nxt S35) (zero w32 (nxt S35)) fun S38 r39 v40 => (F_st_init r39 S38 v40).bind fun (S43, w44) => grd (kin S43 a0 = some (0, 5)) <| lt (sr S43 a0 6 (some r39)) fun S47 => grd (kin S47 (nxt S47) = none) <| lt3 (grow S47 (0, 4) (fTN 4).2.1) (nxt S47) (zero w44 (nxt S47)) fun S50 r51 v52 => (F_st_init r51 S50 v52).bind fun (S55, w56) => grd (kin S55 a0 = some (0, 5)) <| lt (sr S55 a0 7 (some r51)) fun S59 => grd (kin S59 (nxt S59) = none) <| lt3 (grow S59 (0, 4) (fTN 4).2.1) (nxt S59) (zero w56 (nxt S59)) fun S62 r63 v64 => (F_st_init r63 S62 v64).bind fun (S67, w68) => grd (kin S67 a0 = some (0, 5)) <| lt (sr S67 a0 8 (some r63)) fun S71 => grd (kin S71 (nxt S71) = none) <| lt3 (grow S71 (4, 8) 8) (nxt S71) (zero w68 (nxt S71)) fun S74 r75 v76 => grd (kin S74 a0 = some (0, 5)) <| lt (sr S74 a0 10 (some r75)) fun S80 => K_gc_init_81 N  N S80 v76 a0 (J 0)
theorem ok_gc_init (N : Nat) (a0 : Nat) (S : shp) (v : vl) : SimK B_gc_init 0 (entB (bN B_gc_init) [.ref a0]) [] S v (F_gc_init N a0 S v) (ρgv) := by
  show SimK B_gc_init 0 [some (.ref a0), none] [] S v (F_gc_init N a0 S v) _
  unfold F_gc_init
  refine sim_seg [(.aload_n 0, 0, 0, 0)] [] (q := 1) (L' := [some (.ref a0), none]) (st' := [.ref a0]) (v1 := v) (by decide +kernel) rfl trivial ?_
  refine sim_oinit (idx := 1) (pc3 := 4) (by decide +kernel) (List.mem_of_getElem? (i := 74) (by decide +kernel)) (by decide) (Nat.le_of_ble_eq_true rfl) rfl ?_
  refine sim_seg [(.aload_n 0, 0, 0, 0)] [] (q := 5) (L' := [some (.ref a0), none]) (st' := [.ref a0]) (v1 := v) (by decide +kernel) rfl trivial ?_
  refine sim_grd fun h1 => ?_
  refine sim_new (idx := 7) (ci := 2) (pc3 := 8) (by decide) (by decide +kernel) (List.mem_of_getElem? (i := 77) (by decide +kernel)) (List.mem_of_getElem? (i := 78) (by decide +kernel)) (List.mem_of_getElem? (i := 58) (by decide +kernel)) rfl h1 (fun S2 r3 v4 h5 h6 => ?_)
  refine sim_seg [(.dup, 0, 0, 0)] [] (q := 9) (L' := [some (.ref a0), none]) (st' := [.ref r3, .ref r3, .ref a0]) (v1 := v4) (by decide +kernel) rfl trivial ?_
  refine sc_gv (pc3 := 12) (cf_I (idx := 9) [] m_tx_init ⟨by decide, by decide⟩ (List.mem_of_getElem? (i := 79) (by decide +kernel)) rfl (Nat.le_of_ble_eq_true rfl) (by decide +kernel) (Nat.le_of_ble_eq_true rfl) rfl) (ok_tx_init r3 S2 v4) rfl (fun S7 w8 h9 => ?_)
  refine sim_grd fun h10 => ?_
  refine sim_putr (idx := 10) (ci := 5) (m := 0) (pc3 := 15) (by decide +kernel) (by decide) (Or.inr ⟨rfl, rfl⟩) h10 rfl rfl (fun S11 h12 => ?_)
  refine sim_seg [(.aload_n 0, 0, 0, 0)] [] (q := 16) (L' := [some (.ref a0), none]) (st' := [.ref a0]) (v1 := w8) (by decide +kernel) rfl trivial ?_
  refine sim_grd fun h13 => ?_
  refine sim_new (idx := 16) (ci := 7) (pc3 := 19) (by decide) (by decide +kernel) (List.mem_of_getElem? (i := 284) (by decide +kernel)) (List.mem_of_getElem? (i := 285) (by decide +kernel)) (List.mem_of_getElem? (i := 46) (by decide +kernel)) rfl h13 (fun S14 r15 v16 h17 h18 => ?_)
  refine sim_seg [(.dup, 0, 0, 0)] [] (q := 20) (L' := [some (.ref a0), none]) (st' := [.ref r15, .ref r15, .ref a0]) (v1 := v16) (by decide +kernel) rfl trivial ?_
  refine sc_gv (pc3 := 23) (cf_I (idx := 18) [] m_sb_init ⟨by decide, by decide⟩ (List.mem_of_getElem? (i := 286) (by decide +kernel)) rfl (Nat.le_of_ble_eq_true rfl) (by decide +kernel) (Nat.le_of_ble_eq_true rfl) rfl) (ok_sb_init r15 S14 v16) rfl (fun S19 w20 h21 => ?_)
  refine sim_grd fun h22 => ?_
  refine sim_putr (idx := 19) (ci := 5) (m := 1) (pc3 := 26) (by decide +kernel) (by decide) (Or.inr ⟨rfl, rfl⟩) h22 rfl rfl (fun S23 h24 => ?_)
  refine sim_seg [(.aload_n 0, 0, 0, 0)] [] (q := 27) (L' := [some (.ref a0), none]) (st' := [.ref a0]) (v1 := w20) (by decide +kernel) rfl trivial ?_
  refine sim_grd fun h25 => ?_
  refine sim_new (idx := 23) (ci := 4) (pc3 := 30) (by decide) (by decide +kernel) (List.mem_of_getElem? (i := 315) (by decide +kernel)) (List.mem_of_getElem? (i := 84) (by decide +kernel)) (List.mem_of_getElem? (i := 59) (by decide +kernel)) rfl h25 (fun S26 r27 v28 h29 h30 => ?_)
  refine sim_seg [(.dup, 0, 0, 0)] [] (q := 31) (L' := [some (.ref a0), none]) (st' := [.ref r27, .ref r27, .ref a0]) (v1 := v28) (by decide +kernel) rfl trivial ?_
  refine sc_gv (pc3 := 34) (cf_I (idx := 25) [] m_st_init ⟨by decide, by decide⟩ (List.mem_of_getElem? (i := 316) (by decide +kernel)) rfl (Nat.le_of_ble_eq_true rfl) (by decide +kernel) (Nat.le_of_ble_eq_true rfl) rfl) (ok_st_init r27 S26 v28) rfl (fun S31 w32 h33 => ?_)
  refine sim_grd fun h34 => ?_
  refine sim_putr (idx := 26) (ci := 5) (m := 5) (pc3 := 37) (by decide +kernel) (by decide) (Or.inr ⟨rfl, rfl⟩) h34 rfl rfl (fun S35 h36 => ?_)
  refine sim_seg [(.aload_n 0, 0, 0, 0)] [] (q := 38) (L' := [some (.ref a0), none]) (st' := [.ref a0]) (v1 := w32) (by decide +kernel) rfl trivial ?_
  refine sim_grd fun h37 => ?_
  refine sim_new (idx := 23) (ci := 4) (pc3 := 41) (by decide) (by decide +kernel) (List.mem_of_getElem? (i := 315) (by decide +kernel)) (List.mem_of_getElem? (i := 84) (by decide +kernel)) (List.mem_of_getElem? (i := 59) (by decide +kernel)) rfl h37 (fun S38 r39 v40 h41 h42 => ?_)
  refine sim_seg [(.dup, 0, 0, 0)] [] (q := 42) (L' := [some (.ref a0), none]) (st' := [.ref r39, .ref r39, .ref a0]) (v1 := v40) (by decide +kernel) rfl trivial ?_
  refine sc_gv (pc3 := 45) (cf_I (idx := 25) [] m_st_init ⟨by decide, by decide⟩ (List.mem_of_getElem? (i := 316) (by decide +kernel)) rfl (Nat.le_of_ble_eq_true rfl) (by decide +kernel) (Nat.le_of_ble_eq_true rfl) rfl) (ok_st_init r39 S38 v40) rfl (fun S43 w44 h45 => ?_)
  refine sim_grd fun h46 => ?_
  refine sim_putr (idx := 30) (ci := 5) (m := 6) (pc3 := 48) (by decide +kernel) (by decide) (Or.inr ⟨rfl, rfl⟩) h46 rfl rfl (fun S47 h48 => ?_)
  refine sim_seg [(.aload_n 0, 0, 0, 0)] [] (q := 49) (L' := [some (.ref a0), none]) (st' := [.ref a0]) (v1 := w44) (by decide +kernel) rfl trivial ?_
  refine sim_grd fun h49 => ?_
  refine sim_new (idx := 23) (ci := 4) (pc3 := 52) (by decide) (by decide +kernel) (List.mem_of_getElem? (i := 315) (by decide +kernel)) (List.mem_of_getElem? (i := 84) (by decide +kernel)) (List.mem_of_getElem? (i := 59) (by decide +kernel)) rfl h49 (fun S50 r51 v52 h53 h54 => ?_)
  refine sim_seg [(.dup, 0, 0, 0)] [] (q := 53) (L' := [some (.ref a0), none]) (st' := [.ref r51, .ref r51, .ref a0]) (v1 := v52) (by decide +kernel) rfl trivial ?_
  refine sc_gv (pc3 := 56) (cf_I (idx := 25) [] m_st_init ⟨by decide, by decide⟩ (List.mem_of_getElem? (i := 316) (by decide +kernel)) rfl (Nat.le_of_ble_eq_true rfl) (by decide +kernel) (Nat.le_of_ble_eq_true rfl) rfl) (ok_st_init r51 S50 v52) rfl (fun S55 w56 h57 => ?_)
  refine sim_grd fun h58 => ?_
  refine sim_putr (idx := 33) (ci := 5) (m := 7) (pc3 := 59) (by decide +kernel) (by decide) (Or.inr ⟨rfl, rfl⟩) h58 rfl rfl (fun S59 h60 => ?_)
  refine sim_seg [(.aload_n 0, 0, 0, 0)] [] (q := 60) (L' := [some (.ref a0), none]) (st' := [.ref a0]) (v1 := w56) (by decide +kernel) rfl trivial ?_
  refine sim_grd fun h61 => ?_
  refine sim_new (idx := 23) (ci := 4) (pc3 := 63) (by decide) (by decide +kernel) (List.mem_of_getElem? (i := 315) (by decide +kernel)) (List.mem_of_getElem? (i := 84) (by decide +kernel)) (List.mem_of_getElem? (i := 59) (by decide +kernel)) rfl h61 (fun S62 r63 v64 h65 h66 => ?_)
  refine sim_seg [(.dup, 0, 0, 0)] [] (q := 64) (L' := [some (.ref a0), none]) (st' := [.ref r63, .ref r63, .ref a0]) (v1 := v64) (by decide +kernel) rfl trivial ?_
  refine sc_gv (pc3 := 67) (cf_I (idx := 25) [] m_st_init ⟨by decide, by decide⟩ (List.mem_of_getElem? (i := 316) (by decide +kernel)) rfl (Nat.le_of_ble_eq_true rfl) (by decide +kernel) (Nat.le_of_ble_eq_true rfl) rfl) (ok_st_init r63 S62 v64) rfl (fun S67 w68 h69 => ?_)
  refine sim_grd fun h70 => ?_
  refine sim_putr (idx := 36) (ci := 5) (m := 8) (pc3 := 70) (by decide +kernel) (by decide) (Or.inr ⟨rfl, rfl⟩) h70 rfl rfl (fun S71 h72 => ?_)
  refine sim_seg [(.aload_n 0, 0, 0, 0), (.bipush 8, 0, 0, 8)] [] (q := 73) (L' := [some (.ref a0), none]) (st' := [.int (J 8), .ref a0]) (v1 := w68) (by decide +kernel) rfl trivial ?_
  refine sim_grd fun h73 => ?_
  refine sim_newq (idx := 23) (ty := 3) (N := 8) (pc3 := 76) (by decide) (by decide +kernel) (List.mem_of_getElem? (i := 315) (by decide +kernel)) rfl (by decide) (by decide) (by decide) h73 (fun S74 r75 v76 h77 h78 => ?_)
  refine sim_grd fun h79 => ?_
  refine sim_putr (idx := 39) (ci := 5) (m := 10) (pc3 := 79) (by decide +kernel) (by decide) (Or.inr ⟨rfl, rfl⟩) h79 rfl rfl (fun S80 h81 => ?_)
  refine sim_seg [(.iconst 0, 0, 0, 0), (.istore_n 1, 0, 0, 0)] [] (q := 81) (L' := [some (.ref a0), some (.int (J 0))]) (st' := []) (v1 := v76) (by decide +kernel) rfl trivial ?_
  exact sK_gc_init_81 N N S80 v76 a0 (J 0)
def B_tx_byteAt : bd := (⟨"GateCounter$SetupText", "byteAt", "(I)I"⟩, prog_4_method_17_code, 2, (some .int), [], 2, 0)
theorem m_tx_byteAt : mV B_tx_byteAt 2 1 := ⟨⟨⟨by decide +kernel, Or.inl rfl⟩, rfl, (List.mem_of_getElem? (i := 373) (by decide +kernel)), by decide +kernel, (List.mem_of_getElem? (i := 58) (by decide +kernel)), ⟨by decide, by decide⟩, by decide⟩, rfl, (by unfold nar; decide +kernel), (List.mem_of_getElem? (i := 372) (by decide +kernel)), rfl, (List.mem_of_getElem? (i := 5) (by decide +kernel))⟩
noncomputable def F_tx_byteAt (a0 : Nat) (b1 : Int32) (S : shp) (v : vl) : Option Int32 :=
  (if b1 < (J 0) then some ((J (-1))) else grd (kin S a0 = some (0, 2)) <| (if b1 < (gi v a0 1) then (gr S a0 0).bind fun r2 => grd (kin S r2 = some (2, 500)) <| grd (vp_in b1 (alen S r2)) <| some (((gi v r2 (Int32.toNatClampNeg b1)) &&& (J 255))) else some ((J (-1)))))
theorem ok_tx_byteAt (a0 : Nat) (b1 : Int32) (S : shp) (v : vl) : SimK B_tx_byteAt 0 (entB (bN B_tx_byteAt) [.ref a0, .int b1]) [] S v (F_tx_byteAt a0 b1 S v) (ρri S v) := by
  show SimK B_tx_byteAt 0 [some (.ref a0), some (.int b1)] [] S v (F_tx_byteAt a0 b1 S v) _
  unfold F_tx_byteAt
  refine sim_seg [(.iload_n 1, 0, 0, 0)] [] (q := 1) (L' := [some (.ref a0), some (.int b1)]) (st' := [.int b1]) (v1 := v) (by decide +kernel) rfl trivial ?_
  refine sim_lt0 (o := 24) (tg := 25) (f := 4) (by decide +kernel) rfl rfl (fun _ => ?_) (fun _ => ?_)
  · refine sim_seg [(.iconst (-1), 0, 0, (-1))] [] (q := 26) (L' := [some (.ref a0), some (.int b1)]) (st' := [.int (J (-1))]) (v1 := v) (by decide +kernel) rfl trivial ?_
    exact sim_iret (by decide +kernel) rfl rfl rfl
  · refine sim_grd fun h1 => ?_
    refine sim_seg [(.iload_n 1, 0, 0, 0), (.aload_n 0, 0, 0, 0), (.getfield 26, 2, 1, 0)] [] (q := 9) (L' := [some (.ref a0), some (.int b1)]) (st' := [.int (gi v a0 1), .int b1]) (v1 := v) (by decide +kernel) rfl ⟨h1, trivial⟩ ?_
    refine sim_ge (o := 16) (tg := 25) (f := 12) (by decide +kernel) rfl rfl (fun _ => ?_) (fun _ => ?_)
    · refine sim_bind fun r2 h3 => ?_
      refine sim_grd fun h4 => ?_
      refine sim_grd fun h5 => ?_
      refine sim_seg [(.aload_n 0, 0, 0, 0), (.getfield 9, 2, 0, 0), (.iload_n 1, 0, 0, 0), (.baload, 0, 0, 0), (.sipush 255, 0, 0, 255), (.iand, 0, 0, 0), (.goto 4, 0, 0, 0)] [r2] (q := 26) (L' := [some (.ref a0), some (.int b1)]) (st' := [.int ((gi v r2 (Int32.toNatClampNeg b1)) &&& (J 255))]) (v1 := v) (by decide +kernel) rfl ⟨⟨h1, h3⟩, ⟨(Or.inl (kin_alen h4)), h5⟩, trivial⟩ ?_
      exact sim_iret (by decide +kernel) rfl rfl rfl
    · refine sim_seg [(.iconst (-1), 0, 0, (-1))] [] (q := 26) (L' := [some (.ref a0), some (.int b1)]) (st' := [.int (J (-1))]) (v1 := v) (by decide +kernel) rfl trivial ?_
      exact sim_iret (by decide +kernel) rfl rfl rfl
def B_tx_isSpace : bd := (⟨"GateCounter$SetupText", "isSpace", "(I)Z"⟩, prog_4_method_18_code, 1, (some .boolean), [], 2, 0)
theorem m_tx_isSpace : mS B_tx_isSpace 1 := ⟨⟨⟨by decide +kernel, Or.inl rfl⟩, rfl, (List.mem_of_getElem? (i := 376) (by decide +kernel)), by decide +kernel, (List.mem_of_getElem? (i := 58) (by decide +kernel)), ⟨by decide, by decide⟩, by decide⟩, rfl, (by unfold nar; decide +kernel), (List.mem_of_getElem? (i := 375) (by decide +kernel))⟩
noncomputable def F_tx_isSpace (b0 : Int32) (S : shp) (v : vl) : Option Int32 :=
  (if b0 = (J 32) then some ((J 1)) else (if b0 = (J 10) then some ((J 1)) else some ((J 0))))
theorem ok_tx_isSpace (b0 : Int32) (S : shp) (v : vl) : SimK B_tx_isSpace 0 (entB (bN B_tx_isSpace) [.int b0]) [] S v (F_tx_isSpace b0 S v) (ρri S v) := by
  show SimK B_tx_isSpace 0 [some (.int b0)] [] S v (F_tx_isSpace b0 S v) _
  unfold F_tx_isSpace
  refine sim_seg [(.iload_n 0, 0, 0, 0), (.bipush 32, 0, 0, 32)] [] (q := 3) (L' := [some (.int b0)]) (st' := [.int (J 32), .int b0]) (v1 := v) (by decide +kernel) rfl trivial ?_
  refine sim_eq (o := 9) (tg := 12) (f := 6) (by decide +kernel) rfl rfl (fun _ => ?_) (fun _ => ?_)
  · refine sim_seg [(.iconst 1, 0, 0, 1), (.goto 4, 0, 0, 0)] [] (q := 17) (L' := [some (.int b0)]) (st' := [.int (J 1)]) (v1 := v) (by decide +kernel) rfl trivial ?_
    exact sim_iret (by decide +kernel) rfl (by decide) rfl
  · refine sim_seg [(.iload_n 0, 0, 0, 0), (.bipush 10, 0, 0, 10)] [] (q := 9) (L' := [some (.int b0)]) (st' := [.int (J 10), .int b0]) (v1 := v) (by decide +kernel) rfl trivial ?_
    refine sim_ne (o := 7) (tg := 16) (f := 12) (by decide +kernel) rfl rfl (fun _ => ?_) (fun _ => ?_)
    · refine sim_seg [(.iconst 1, 0, 0, 1), (.goto 4, 0, 0, 0)] [] (q := 17) (L' := [some (.int b0)]) (st' := [.int (J 1)]) (v1 := v) (by decide +kernel) rfl trivial ?_
      exact sim_iret (by decide +kernel) rfl (by decide) rfl
    · refine sim_seg [(.iconst 0, 0, 0, 0)] [] (q := 17) (L' := [some (.int b0)]) (st' := [.int (J 0)]) (v1 := v) (by decide +kernel) rfl trivial ?_
      exact sim_iret (by decide +kernel) rfl (by decide) rfl
def B_tx_kindOf : bd := (⟨"GateCounter$SetupText", "kindOf", "(I)I"⟩, prog_4_method_19_code, 1, (some .int), [], 2, 0)
theorem m_tx_kindOf : mS B_tx_kindOf 1 := ⟨⟨⟨by decide +kernel, Or.inl rfl⟩, rfl, (List.mem_of_getElem? (i := 379) (by decide +kernel)), by decide +kernel, (List.mem_of_getElem? (i := 58) (by decide +kernel)), ⟨by decide, by decide⟩, by decide⟩, rfl, (by unfold nar; decide +kernel), (List.mem_of_getElem? (i := 378) (by decide +kernel))⟩
noncomputable def K_tx_kindOf_21  (S : shp) (v : vl) (p0 : Int32) : Option Int32 :=
  (if p0 < (J 48) then (if p0 = (J 59) then some ((J 3)) else (if p0 = (J 45) then some ((J 4)) else some ((J 5)))) else (if (J 57) < p0 then (if p0 = (J 59) then some ((J 3)) else (if p0 = (J 45) then some ((J 4)) else some ((J 5)))) else some ((J 2))))
theorem sK_tx_kindOf_21   (S : shp) (v : vl) (p0 : Int32) : SimK B_tx_kindOf 21 [some (.int p0)] [] S v (K_tx_kindOf_21   S v p0) (ρri S v) := by
  unfold K_tx_kindOf_21
  refine sim_seg [(.iload_n 0, 0, 0, 0), (.bipush 48, 0, 0, 48)] [] (q := 24) (L' := [some (.int p0)]) (st' := [.int (J 48), .int p0]) (v1 := v) (by decide +kernel) rfl trivial ?_
  refine sim_lt' (o := 11) (tg := 35) (f := 27) (by decide +kernel) rfl rfl (fun _ => ?_) (fun _ => ?_)
  · refine sim_seg [(.iload_n 0, 0, 0, 0), (.bipush 59, 0, 0, 59)] [] (q := 38) (L' := [some (.int p0)]) (st' := [.int (J 59), .int p0]) (v1 := v) (by decide +kernel) rfl trivial ?_
    refine sim_ne (o := 7) (tg := 45) (f := 41) (by decide +kernel) rfl rfl (fun _ => ?_) (fun _ => ?_)
    · refine sim_seg [(.iconst 3, 0, 0, 3), (.goto 14, 0, 0, 0)] [] (q := 56) (L' := [some (.int p0)]) (st' := [.int (J 3)]) (v1 := v) (by decide +kernel) rfl trivial ?_
      exact sim_iret (by decide +kernel) rfl rfl rfl
    · refine sim_seg [(.iload_n 0, 0, 0, 0), (.bipush 45, 0, 0, 45)] [] (q := 48) (L' := [some (.int p0)]) (st' := [.int (J 45), .int p0]) (v1 := v) (by decide +kernel) rfl trivial ?_
      refine sim_ne (o := 7) (tg := 55) (f := 51) (by decide +kernel) rfl rfl (fun _ => ?_) (fun _ => ?_)
      · refine sim_seg [(.iconst 4, 0, 0, 4), (.goto 4, 0, 0, 0)] [] (q := 56) (L' := [some (.int p0)]) (st' := [.int (J 4)]) (v1 := v) (by decide +kernel) rfl trivial ?_
        exact sim_iret (by decide +kernel) rfl rfl rfl
      · refine sim_seg [(.iconst 5, 0, 0, 5)] [] (q := 56) (L' := [some (.int p0)]) (st' := [.int (J 5)]) (v1 := v) (by decide +kernel) rfl trivial ?_
        exact sim_iret (by decide +kernel) rfl rfl rfl
  · refine sim_seg [(.iload_n 0, 0, 0, 0), (.bipush 57, 0, 0, 57)] [] (q := 30) (L' := [some (.int p0)]) (st' := [.int (J 57), .int p0]) (v1 := v) (by decide +kernel) rfl trivial ?_
    refine sim_gt (o := 5) (tg := 35) (f := 33) (by decide +kernel) rfl rfl (fun _ => ?_) (fun _ => ?_)
    · refine sim_seg [(.iload_n 0, 0, 0, 0), (.bipush 59, 0, 0, 59)] [] (q := 38) (L' := [some (.int p0)]) (st' := [.int (J 59), .int p0]) (v1 := v) (by decide +kernel) rfl trivial ?_
      refine sim_ne (o := 7) (tg := 45) (f := 41) (by decide +kernel) rfl rfl (fun _ => ?_) (fun _ => ?_)
      · refine sim_seg [(.iconst 3, 0, 0, 3), (.goto 14, 0, 0, 0)] [] (q := 56) (L' := [some (.int p0)]) (st' := [.int (J 3)]) (v1 := v) (by decide +kernel) rfl trivial ?_
        exact sim_iret (by decide +kernel) rfl rfl rfl
      · refine sim_seg [(.iload_n 0, 0, 0, 0), (.bipush 45, 0, 0, 45)] [] (q := 48) (L' := [some (.int p0)]) (st' := [.int (J 45), .int p0]) (v1 := v) (by decide +kernel) rfl trivial ?_
        refine sim_ne (o := 7) (tg := 55) (f := 51) (by decide +kernel) rfl rfl (fun _ => ?_) (fun _ => ?_)
        · refine sim_seg [(.iconst 4, 0, 0, 4), (.goto 4, 0, 0, 0)] [] (q := 56) (L' := [some (.int p0)]) (st' := [.int (J 4)]) (v1 := v) (by decide +kernel) rfl trivial ?_
          exact sim_iret (by decide +kernel) rfl rfl rfl
        · refine sim_seg [(.iconst 5, 0, 0, 5)] [] (q := 56) (L' := [some (.int p0)]) (st' := [.int (J 5)]) (v1 := v) (by decide +kernel) rfl trivial ?_
          exact sim_iret (by decide +kernel) rfl rfl rfl
    · refine sim_seg [(.iconst 2, 0, 0, 2)] [] (q := 34) (L' := [some (.int p0)]) (st' := [.int (J 2)]) (v1 := v) (by decide +kernel) rfl trivial ?_
      exact sim_iret (by decide +kernel) rfl rfl rfl
noncomputable def F_tx_kindOf (b0 : Int32) (S : shp) (v : vl) : Option Int32 :=
  (if b0 = (J (-1)) then some ((J 0)) else (if b0 < (J 97) then K_tx_kindOf_21  S v b0 else (if (J 122) < b0 then K_tx_kindOf_21  S v b0 else some ((J 1)))))
theorem ok_tx_kindOf (b0 : Int32) (S : shp) (v : vl) : SimK B_tx_kindOf 0 (entB (bN B_tx_kindOf) [.int b0]) [] S v (F_tx_kindOf b0 S v) (ρri S v) := by
  show SimK B_tx_kindOf 0 [some (.int b0)] [] S v (F_tx_kindOf b0 S v) _
  unfold F_tx_kindOf
  refine sim_seg [(.iload_n 0, 0, 0, 0), (.iconst (-1), 0, 0, (-1))] [] (q := 2) (L' := [some (.int b0)]) (st' := [.int (J (-1)), .int b0]) (v1 := v) (by decide +kernel) rfl trivial ?_
  refine sim_ne (o := 5) (tg := 7) (f := 5) (by decide +kernel) rfl rfl (fun _ => ?_) (fun _ => ?_)
  · refine sim_seg [(.iconst 0, 0, 0, 0)] [] (q := 6) (L' := [some (.int b0)]) (st' := [.int (J 0)]) (v1 := v) (by decide +kernel) rfl trivial ?_
    exact sim_iret (by decide +kernel) rfl rfl rfl
  · refine sim_seg [(.iload_n 0, 0, 0, 0), (.bipush 97, 0, 0, 97)] [] (q := 10) (L' := [some (.int b0)]) (st' := [.int (J 97), .int b0]) (v1 := v) (by decide +kernel) rfl trivial ?_
    refine sim_lt' (o := 11) (tg := 21) (f := 13) (by decide +kernel) rfl rfl (fun _ => ?_) (fun _ => ?_)
    · exact sK_tx_kindOf_21 S v b0
    · refine sim_seg [(.iload_n 0, 0, 0, 0), (.bipush 122, 0, 0, 122)] [] (q := 16) (L' := [some (.int b0)]) (st' := [.int (J 122), .int b0]) (v1 := v) (by decide +kernel) rfl trivial ?_
      refine sim_gt (o := 5) (tg := 21) (f := 19) (by decide +kernel) rfl rfl (fun _ => ?_) (fun _ => ?_)
      · exact sK_tx_kindOf_21 S v b0
      · refine sim_seg [(.iconst 1, 0, 0, 1)] [] (q := 20) (L' := [some (.int b0)]) (st' := [.int (J 1)]) (v1 := v) (by decide +kernel) rfl trivial ?_
        exact sim_iret (by decide +kernel) rfl rfl rfl
def B_tx_readDigits : bd := (⟨"GateCounter$SetupText", "readDigits", "()V"⟩, prog_4_method_15_code, 2, none, [], 2, 1)
theorem m_tx_readDigits : mV B_tx_readDigits 2 0 := ⟨⟨⟨by decide +kernel, Or.inl rfl⟩, rfl, (List.mem_of_getElem? (i := 383) (by decide +kernel)), by decide +kernel, (List.mem_of_getElem? (i := 58) (by decide +kernel)), ⟨by decide, by decide⟩, by decide⟩, rfl, (by unfold nar; decide +kernel), (List.mem_of_getElem? (i := 382) (by decide +kernel)), rfl, (List.mem_of_getElem? (i := 6) (by decide +kernel))⟩
noncomputable def Y_tx_readDigits_30 (N : Nat)  (i30 : vl → Nat → Int32 → Option vl) (S : shp) (v : vl) (p0 : Nat) (p1 : Int32) : Option vl :=
  grd (kin S p0 = some (0, 2)) <| (if p1 < (gi v p0 10) then (F_tx_byteAt p0 p1 S v).bind fun x5 => lt (si v p0 11 ((((gi v p0 11) * (J 10)) + x5) - (J 48))) fun w6 => i30 w6 p0 (p1 + (J 1)) else some (v))
noncomputable def K_tx_readDigits_30 (N : Nat)  (n : Nat) (S : shp) : vl → Nat → Int32 → Option vl :=
  Nat.rec (motive := fun _ => vl → Nat → Int32 → Option vl) (fun _ _ _ => none) (fun _ i => Y_tx_readDigits_30 N  i S) n
theorem sY_tx_readDigits_30 (N : Nat)  (i30 : vl → Nat → Int32 → Option vl) (S : shp)  (j30 : ∀ (v : vl) (p0 : Nat) (p1 : Int32), SimK B_tx_readDigits 30 [some (.ref p0), some (.int p1)] [] S v (i30 v p0 p1) (ρpv S)) (v : vl) (p0 : Nat) (p1 : Int32) : SimK B_tx_readDigits 30 [some (.ref p0), some (.int p1)] [] S v (Y_tx_readDigits_30 N  i30 S v p0 p1) (ρpv S) := by
  unfold Y_tx_readDigits_30
  refine sim_grd fun h4 => ?_
  refine sim_seg [(.iload_n 1, 0, 0, 0), (.aload_n 0, 0, 0, 0), (.getfield 45, 2, 10, 0)] [] (q := 35) (L' := [some (.ref p0), some (.int p1)]) (st' := [.int (gi v p0 10), .int p1]) (v1 := v) (by decide +kernel) rfl ⟨h4, trivial⟩ ?_
  refine sim_ge (o := 29) (tg := 64) (f := 38) (by decide +kernel) rfl rfl (fun _ => ?_) (fun _ => ?_)
  · refine sim_seg [(.aload_n 0, 0, 0, 0), (.aload_n 0, 0, 0, 0), (.getfield 117, 2, 11, 0), (.bipush 10, 0, 0, 10), (.imul, 0, 0, 0), (.aload_n 0, 0, 0, 0), (.iload_n 1, 0, 0, 0)] [] (q := 48) (L' := [some (.ref p0), some (.int p1)]) (st' := [.int p1, .ref p0, .int ((gi v p0 11) * (J 10)), .ref p0]) (v1 := v) (by decide +kernel) rfl ⟨h4, trivial⟩ ?_
    refine sc_ri (pc3 := 51) (cf_V (idx := 152) (ci := 2) [.int p1] m_tx_byteAt (by decide) ⟨by decide, by decide⟩ (List.mem_of_getElem? (i := 370) (by decide +kernel)) rfl (Nat.le_of_ble_eq_true rfl) h4 (by decide +kernel) (Nat.le_of_ble_eq_true rfl) rfl) (ok_tx_byteAt p0 p1 S v) rfl (fun x5 => ?_)
    refine sim_seg [(.iadd, 0, 0, 0), (.bipush 48, 0, 0, 48), (.isub, 0, 0, 0), (.putfield 117, 2, 11, 0), (.iinc 1 1, 0, 0, 1)] [] (q := 61) (L' := [some (.ref p0), some (.int (p1 + (J 1)))]) (st' := []) (v1 := (si v p0 11 ((((gi v p0 11) * (J 10)) + x5) - (J 48)))) (by decide +kernel) rfl ⟨h4, trivial⟩ ?_
    refine sim_lt (x := (si v p0 11 ((((gi v p0 11) * (J 10)) + x5) - (J 48)))) ?_
    generalize (si v p0 11 ((((gi v p0 11) * (J 10)) + x5) - (J 48))) = w6
    refine sim_seg [(.goto (-31), 0, 0, 0)] [] (q := 30) (L' := [some (.ref p0), some (.int (p1 + (J 1)))]) (st' := []) (v1 := w6) (by decide +kernel) rfl trivial ?_
    exact j30 w6 p0 (p1 + (J 1))
  · exact sim_vret (by decide +kernel) rfl rfl
theorem sR_tx_readDigits_30 (N : Nat)  (S : shp)  (n : Nat) : ∀ (v : vl) (p0 : Nat) (p1 : Int32), SimK B_tx_readDigits 30 [some (.ref p0), some (.int p1)] [] S v (K_tx_readDigits_30 N  n S v p0 p1) (ρpv S) := by
  induction n with
  | zero => intro v p0 p1; exact sim_none
  | succ k ih => intro v p0 p1; exact sY_tx_readDigits_30 N   _ S  ih v p0 p1
theorem sK_tx_readDigits_30 (N : Nat)  (n : Nat) (S : shp) (v : vl) (p0 : Nat) (p1 : Int32) : SimK B_tx_readDigits 30 [some (.ref p0), some (.int p1)] [] S v (K_tx_readDigits_30 N  n S v p0 p1) (ρpv S) := sR_tx_readDigits_30 N   S  n  v p0 p1
noncomputable def F_tx_readDigits (N : Nat) (a0 : Nat) (S : shp) (v : vl) : Option vl :=
  grd (kin S a0 = some (0, 2)) <| (if (J 6) < ((gi v a0 10) - (gi v a0 9)) then lt (si v a0 8 (J 5)) fun w2 => some (w2) else lt (si v a0 11 (J 0)) fun w3 => K_tx_readDigits_30 N  N S w3 a0 (gi w3 a0 9))
theorem ok_tx_readDigits (N : Nat) (a0 : Nat) (S : shp) (v : vl) : SimK B_tx_readDigits 0 (entB (bN B_tx_readDigits) [.ref a0]) [] S v (F_tx_readDigits N a0 S v) (ρpv S) := by
  show SimK B_tx_readDigits 0 [some (.ref a0), none] [] S v (F_tx_readDigits N a0 S v) _
  unfold F_tx_readDigits
  refine sim_grd fun h1 => ?_
  refine sim_seg [(.aload_n 0, 0, 0, 0), (.getfield 45, 2, 10, 0), (.aload_n 0, 0, 0, 0), (.getfield 150, 2, 9, 0), (.isub, 0, 0, 0), (.bipush 6, 0, 0, 6)] [] (q := 11) (L' := [some (.ref a0), none]) (st' := [.int (J 6), .int ((gi v a0 10) - (gi v a0 9))]) (v1 := v) (by decide +kernel) rfl ⟨h1, h1, trivial⟩ ?_
  refine sim_le (o := 9) (tg := 20) (f := 14) (by decide +kernel) rfl rfl (fun _ => ?_) (fun _ => ?_)
  · refine sim_seg [(.aload_n 0, 0, 0, 0), (.iconst 5, 0, 0, 5), (.putfield 65, 2, 8, 0)] [] (q := 19) (L' := [some (.ref a0), none]) (st' := []) (v1 := (si v a0 8 (J 5))) (by decide +kernel) rfl ⟨h1, trivial⟩ ?_
    refine sim_lt (x := (si v a0 8 (J 5))) ?_
    generalize (si v a0 8 (J 5)) = w2
    exact sim_vret (by decide +kernel) rfl rfl
  · refine sim_seg [(.aload_n 0, 0, 0, 0), (.iconst 0, 0, 0, 0), (.putfield 117, 2, 11, 0), (.aload_n 0, 0, 0, 0)] [] (q := 26) (L' := [some (.ref a0), none]) (st' := [.ref a0]) (v1 := (si v a0 11 (J 0))) (by decide +kernel) rfl ⟨h1, trivial⟩ ?_
    refine sim_lt (x := (si v a0 11 (J 0))) ?_
    generalize (si v a0 11 (J 0)) = w3
    refine sim_seg [(.getfield 150, 2, 9, 0), (.istore_n 1, 0, 0, 0)] [] (q := 30) (L' := [some (.ref a0), some (.int (gi w3 a0 9))]) (st' := []) (v1 := w3) (by decide +kernel) rfl ⟨h1, trivial⟩ ?_
    exact sK_tx_readDigits_30 N N S w3 a0 (gi w3 a0 9)
def B_tx_advance : bd := (⟨"GateCounter$SetupText", "advance", "()V"⟩, prog_4_method_14_code, 3, none, [], 2, 2)
theorem m_tx_advance : mV B_tx_advance 2 0 := ⟨⟨⟨by decide +kernel, Or.inl rfl⟩, rfl, (List.mem_of_getElem? (i := 369) (by decide +kernel)), by decide +kernel, (List.mem_of_getElem? (i := 58) (by decide +kernel)), ⟨by decide, by decide⟩, by decide⟩, rfl, (by unfold nar; decide +kernel), (List.mem_of_getElem? (i := 368) (by decide +kernel)), rfl, (List.mem_of_getElem? (i := 4) (by decide +kernel))⟩
noncomputable def Y_tx_advance_111 (N : Nat)  (i111 : vl → Nat → Int32 → Int32 → Option vl) (S : shp) (v : vl) (p0 : Nat) (p1 : Int32) (p2 : Int32) : Option vl :=
  grd (kin S p0 = some (0, 2)) <| (if p2 < (gi v p0 1) then (if p1 = (J 0) then (if (gi v p0 8) = (J 2) then (F_tx_readDigits N p0 S v).bind fun w14 => some (w14) else some (v)) else (F_tx_byteAt p0 p2 S v).bind fun x15 => (F_tx_kindOf x15 S v).bind fun x16 => (if x16 = (gi v p0 8) then lt (si v p0 10 (p2 + (J 1))) fun w17 => i111 w17 p0 p1 (p2 + (J 1)) else (if (gi v p0 8) = (J 2) then (F_tx_readDigits N p0 S v).bind fun w18 => some (w18) else some (v)))) else (if (gi v p0 8) = (J 2) then (F_tx_readDigits N p0 S v).bind fun w19 => some (w19) else some (v)))
noncomputable def K_tx_advance_111 (N : Nat)  (n : Nat) (S : shp) : vl → Nat → Int32 → Int32 → Option vl :=
  Nat.rec (motive := fun _ => vl → Nat → Int32 → Int32 → Option vl) (fun _ _ _ _ => none) (fun _ i => Y_tx_advance_111 N  i S) n
theorem sY_tx_advance_111 (N : Nat)  (i111 : vl → Nat → Int32 → Int32 → Option vl) (S : shp)  (j111 : ∀ (v : vl) (p0 : Nat) (p1 : Int32) (p2 : Int32), SimK B_tx_advance 111 [some (.ref p0), some (.int p1), some (.int p2)] [] S v (i111 v p0 p1 p2) (ρpv S)) (v : vl) (p0 : Nat) (p1 : Int32) (p2 : Int32) : SimK B_tx_advance 111 [some (.ref p0), some (.int p1), some (.int p2)] [] S v (Y_tx_advance_111 N  i111 S v p0 p1 p2) (ρpv S) := by
  unfold Y_tx_advance_111
  refine sim_grd fun h13 => ?_
  refine sim_seg [(.iload_n 2, 0, 0, 0), (.aload_n 0, 0, 0, 0), (.getfield 26, 2, 1, 0)] [] (q := 116) (L' := [some (.ref p0), some (.int p1), some (.int p2)]) (st' := [.int (gi v p0 1), .int p2]) (v1 := v) (by decide +kernel) rfl ⟨h13, trivial⟩ ?_
  refine sim_ge (o := 35) (tg := 151) (f := 119) (by decide +kernel) rfl rfl (fun _ => ?_) (fun _ => ?_)
  · refine sim_seg [(.iload_n 1, 0, 0, 0)] [] (q := 120) (L' := [some (.ref p0), some (.int p1), some (.int p2)]) (st' := [.int p1]) (v1 := v) (by decide +kernel) rfl trivial ?_
    refine sim_eq0 (o := 31) (tg := 151) (f := 123) (by decide +kernel) rfl rfl (fun _ => ?_) (fun _ => ?_)
    · refine sim_seg [(.aload_n 0, 0, 0, 0), (.getfield 65, 2, 8, 0), (.iconst 2, 0, 0, 2)] [] (q := 156) (L' := [some (.ref p0), some (.int p1), some (.int p2)]) (st' := [.int (J 2), .int (gi v p0 8)]) (v1 := v) (by decide +kernel) rfl ⟨h13, trivial⟩ ?_
      refine sim_ne (o := 7) (tg := 163) (f := 159) (by decide +kernel) rfl rfl (fun _ => ?_) (fun _ => ?_)
      · refine sim_seg [(.aload_n 0, 0, 0, 0)] [] (q := 160) (L' := [some (.ref p0), some (.int p1), some (.int p2)]) (st' := [.ref p0]) (v1 := v) (by decide +kernel) rfl trivial ?_
        refine sc_pv (pc3 := 163) (cf_V (idx := 162) (ci := 2) [] m_tx_readDigits (by decide) ⟨by decide, by decide⟩ (List.mem_of_getElem? (i := 380) (by decide +kernel)) rfl (Nat.le_of_ble_eq_true rfl) h13 (by decide +kernel) (Nat.le_of_ble_eq_true rfl) rfl) (ok_tx_readDigits N p0 S v) rfl (fun w14 => ?_)
        exact sim_vret (by decide +kernel) rfl rfl
      · exact sim_vret (by decide +kernel) rfl rfl
    · refine sim_seg [(.aload_n 0, 0, 0, 0), (.iload_n 2, 0, 0, 0)] [] (q := 125) (L' := [some (.ref p0), some (.int p1), some (.int p2)]) (st' := [.int p2, .ref p0]) (v1 := v) (by decide +kernel) rfl trivial ?_
      refine sc_ri (pc3 := 128) (cf_V (idx := 152) (ci := 2) [.int p2] m_tx_byteAt (by decide) ⟨by decide, by decide⟩ (List.mem_of_getElem? (i := 370) (by decide +kernel)) rfl (Nat.le_of_ble_eq_true rfl) h13 (by decide +kernel) (Nat.le_of_ble_eq_true rfl) rfl) (ok_tx_byteAt p0 p2 S v) rfl (fun x15 => ?_)
      refine sc_ri (pc3 := 131) (cf_S (idx := 159) [.int x15] m_tx_kindOf ⟨by decide, by decide⟩ (List.mem_of_getElem? (i := 377) (by decide +kernel)) rfl (Nat.le_of_ble_eq_true rfl) (by decide +kernel) (Nat.le_of_ble_eq_true rfl) rfl) (ok_tx_kindOf x15 S v) rfl (fun x16 => ?_)
      refine sim_seg [(.aload_n 0, 0, 0, 0), (.getfield 65, 2, 8, 0)] [] (q := 135) (L' := [some (.ref p0), some (.int p1), some (.int p2)]) (st' := [.int (gi v p0 8), .int x16]) (v1 := v) (by decide +kernel) rfl ⟨h13, trivial⟩ ?_
      refine sim_ne (o := 16) (tg := 151) (f := 138) (by decide +kernel) rfl rfl (fun _ => ?_) (fun _ => ?_)
      · refine sim_seg [(.aload_n 0, 0, 0, 0), (.iload_n 2, 0, 0, 0), (.iconst 1, 0, 0, 1), (.iadd, 0, 0, 0), (.putfield 45, 2, 10, 0), (.iinc 2 1, 0, 0, 1)] [] (q := 148) (L' := [some (.ref p0), some (.int p1), some (.int (p2 + (J 1)))]) (st' := []) (v1 := (si v p0 10 (p2 + (J 1)))) (by decide +kernel) rfl ⟨h13, trivial⟩ ?_
        refine sim_lt (x := (si v p0 10 (p2 + (J 1)))) ?_
        generalize (si v p0 10 (p2 + (J 1))) = w17
        refine sim_seg [(.goto (-37), 0, 0, 0)] [] (q := 111) (L' := [some (.ref p0), some (.int p1), some (.int (p2 + (J 1)))]) (st' := []) (v1 := w17) (by decide +kernel) rfl trivial ?_
        exact j111 w17 p0 p1 (p2 + (J 1))
      · refine sim_seg [(.aload_n 0, 0, 0, 0), (.getfield 65, 2, 8, 0), (.iconst 2, 0, 0, 2)] [] (q := 156) (L' := [some (.ref p0), some (.int p1), some (.int p2)]) (st' := [.int (J 2), .int (gi v p0 8)]) (v1 := v) (by decide +kernel) rfl ⟨h13, trivial⟩ ?_
        refine sim_ne (o := 7) (tg := 163) (f := 159) (by decide +kernel) rfl rfl (fun _ => ?_) (fun _ => ?_)
        · refine sim_seg [(.aload_n 0, 0, 0, 0)] [] (q := 160) (L' := [some (.ref p0), some (.int p1), some (.int p2)]) (st' := [.ref p0]) (v1 := v) (by decide +kernel) rfl trivial ?_
          refine sc_pv (pc3 := 163) (cf_V (idx := 162) (ci := 2) [] m_tx_readDigits (by decide) ⟨by decide, by decide⟩ (List.mem_of_getElem? (i := 380) (by decide +kernel)) rfl (Nat.le_of_ble_eq_true rfl) h13 (by decide +kernel) (Nat.le_of_ble_eq_true rfl) rfl) (ok_tx_readDigits N p0 S v) rfl (fun w18 => ?_)
          exact sim_vret (by decide +kernel) rfl rfl
        · exact sim_vret (by decide +kernel) rfl rfl
  · refine sim_seg [(.aload_n 0, 0, 0, 0), (.getfield 65, 2, 8, 0), (.iconst 2, 0, 0, 2)] [] (q := 156) (L' := [some (.ref p0), some (.int p1), some (.int p2)]) (st' := [.int (J 2), .int (gi v p0 8)]) (v1 := v) (by decide +kernel) rfl ⟨h13, trivial⟩ ?_
    refine sim_ne (o := 7) (tg := 163) (f := 159) (by decide +kernel) rfl rfl (fun _ => ?_) (fun _ => ?_)
    · refine sim_seg [(.aload_n 0, 0, 0, 0)] [] (q := 160) (L' := [some (.ref p0), some (.int p1), some (.int p2)]) (st' := [.ref p0]) (v1 := v) (by decide +kernel) rfl trivial ?_
      refine sc_pv (pc3 := 163) (cf_V (idx := 162) (ci := 2) [] m_tx_readDigits (by decide) ⟨by decide, by decide⟩ (List.mem_of_getElem? (i := 380) (by decide +kernel)) rfl (Nat.le_of_ble_eq_true rfl) h13 (by decide +kernel) (Nat.le_of_ble_eq_true rfl) rfl) (ok_tx_readDigits N p0 S v) rfl (fun w19 => ?_)
      exact sim_vret (by decide +kernel) rfl rfl
    · exact sim_vret (by decide +kernel) rfl rfl
theorem sR_tx_advance_111 (N : Nat)  (S : shp)  (n : Nat) : ∀ (v : vl) (p0 : Nat) (p1 : Int32) (p2 : Int32), SimK B_tx_advance 111 [some (.ref p0), some (.int p1), some (.int p2)] [] S v (K_tx_advance_111 N  n S v p0 p1 p2) (ρpv S) := by
  induction n with
  | zero => intro v p0 p1 p2; exact sim_none
  | succ k ih => intro v p0 p1 p2; exact sY_tx_advance_111 N   _ S  ih v p0 p1 p2
theorem sK_tx_advance_111 (N : Nat)  (n : Nat) (S : shp) (v : vl) (p0 : Nat) (p1 : Int32) (p2 : Int32) : SimK B_tx_advance 111 [some (.ref p0), some (.int p1), some (.int p2)] [] S v (K_tx_advance_111 N  n S v p0 p1 p2) (ρpv S) := sR_tx_advance_111 N   S  n  v p0 p1 p2
noncomputable def K_tx_advance_81 (N : Nat)  (S : shp) (v : vl) (p0 : Nat) (s0 : Nat) (s1 : Int32) : Option vl :=
  grd (kin S s0 = some (0, 2)) <| lt (si v s0 10 s1) fun w11 => grd (kin S p0 = some (0, 2)) <| (if (gi w11 p0 8) = (J 1) then K_tx_advance_111 N  N S w11 p0 (J 1) (gi w11 p0 10) else (if (gi w11 p0 8) = (J 2) then K_tx_advance_111 N  N S w11 p0 (J 1) (gi w11 p0 10) else K_tx_advance_111 N  N S w11 p0 (J 0) (gi w11 p0 10)))
theorem sK_tx_advance_81 (N : Nat)   (S : shp) (v : vl) (p0 : Nat) (s0 : Nat) (s1 : Int32) : SimK B_tx_advance 81 [some (.ref p0), none, none] [.int s1, .ref s0] S v (K_tx_advance_81 N  S v p0 s0 s1) (ρpv S) := by
  unfold K_tx_advance_81
  refine sim_grd fun h10 => ?_
  refine sim_seg [(.putfield 45, 2, 10, 0), (.aload_n 0, 0, 0, 0)] [] (q := 85) (L' := [some (.ref p0), none, none]) (st' := [.ref p0]) (v1 := (si v s0 10 s1)) (by decide +kernel) rfl ⟨h10, trivial⟩ ?_
  refine sim_lt (x := (si v s0 10 s1)) ?_
  generalize (si v s0 10 s1) = w11
  refine sim_grd fun h12 => ?_
  refine sim_seg [(.getfield 65, 2, 8, 0), (.iconst 1, 0, 0, 1)] [] (q := 89) (L' := [some (.ref p0), none, none]) (st' := [.int (J 1), .int (gi w11 p0 8)]) (v1 := w11) (by decide +kernel) rfl ⟨h12, trivial⟩ ?_
  refine sim_eq (o := 11) (tg := 100) (f := 92) (by decide +kernel) rfl rfl (fun _ => ?_) (fun _ => ?_)
  · refine sim_seg [(.iconst 1, 0, 0, 1), (.goto 4, 0, 0, 0), (.istore_n 1, 0, 0, 0)] [] (q := 106) (L' := [some (.ref p0), some (.int (J 1)), none]) (st' := []) (v1 := w11) (by decide +kernel) rfl trivial ?_
    refine sim_seg [(.aload_n 0, 0, 0, 0), (.getfield 45, 2, 10, 0), (.istore_n 2, 0, 0, 0)] [] (q := 111) (L' := [some (.ref p0), some (.int (J 1)), some (.int (gi w11 p0 10))]) (st' := []) (v1 := w11) (by decide +kernel) rfl ⟨h12, trivial⟩ ?_
    exact sK_tx_advance_111 N N S w11 p0 (J 1) (gi w11 p0 10)
  · refine sim_seg [(.aload_n 0, 0, 0, 0), (.getfield 65, 2, 8, 0), (.iconst 2, 0, 0, 2)] [] (q := 97) (L' := [some (.ref p0), none, none]) (st' := [.int (J 2), .int (gi w11 p0 8)]) (v1 := w11) (by decide +kernel) rfl ⟨h12, trivial⟩ ?_
    refine sim_ne (o := 7) (tg := 104) (f := 100) (by decide +kernel) rfl rfl (fun _ => ?_) (fun _ => ?_)
    · refine sim_seg [(.iconst 1, 0, 0, 1), (.goto 4, 0, 0, 0), (.istore_n 1, 0, 0, 0)] [] (q := 106) (L' := [some (.ref p0), some (.int (J 1)), none]) (st' := []) (v1 := w11) (by decide +kernel) rfl trivial ?_
      refine sim_seg [(.aload_n 0, 0, 0, 0), (.getfield 45, 2, 10, 0), (.istore_n 2, 0, 0, 0)] [] (q := 111) (L' := [some (.ref p0), some (.int (J 1)), some (.int (gi w11 p0 10))]) (st' := []) (v1 := w11) (by decide +kernel) rfl ⟨h12, trivial⟩ ?_
      exact sK_tx_advance_111 N N S w11 p0 (J 1) (gi w11 p0 10)
    · refine sim_seg [(.iconst 0, 0, 0, 0), (.istore_n 1, 0, 0, 0)] [] (q := 106) (L' := [some (.ref p0), some (.int (J 0)), none]) (st' := []) (v1 := w11) (by decide +kernel) rfl trivial ?_
      refine sim_seg [(.aload_n 0, 0, 0, 0), (.getfield 45, 2, 10, 0), (.istore_n 2, 0, 0, 0)] [] (q := 111) (L' := [some (.ref p0), some (.int (J 0)), some (.int (gi w11 p0 10))]) (st' := []) (v1 := w11) (by decide +kernel) rfl ⟨h12, trivial⟩ ?_
      exact sK_tx_advance_111 N N S w11 p0 (J 0) (gi w11 p0 10)
noncomputable def K_tx_advance_45 (N : Nat)  (S : shp) (v : vl) (p0 : Nat) : Option vl :=
  grd (kin S p0 = some (0, 2)) <| (F_tx_byteAt p0 (gi v p0 9) S v).bind fun x7 => (F_tx_kindOf x7 S v).bind fun x8 => lt (si v p0 8 x8) fun w9 => (if (gi w9 p0 8) = (J 0) then K_tx_advance_81 N  S w9 p0 p0 (gi w9 p0 9) else K_tx_advance_81 N  S w9 p0 p0 ((gi w9 p0 9) + (J 1)))
theorem sK_tx_advance_45 (N : Nat)   (S : shp) (v : vl) (p0 : Nat) : SimK B_tx_advance 45 [some (.ref p0), none, none] [] S v (K_tx_advance_45 N  S v p0) (ρpv S) := by
  unfold K_tx_advance_45
  refine sim_grd fun h6 => ?_
  refine sim_seg [(.aload_n 0, 0, 0, 0), (.aload_n 0, 0, 0, 0), (.aload_n 0, 0, 0, 0), (.getfield 150, 2, 9, 0)] [] (q := 51) (L' := [some (.ref p0), none, none]) (st' := [.int (gi v p0 9), .ref p0, .ref p0]) (v1 := v) (by decide +kernel) rfl ⟨h6, trivial⟩ ?_
  refine sc_ri (pc3 := 54) (cf_V (idx := 152) (ci := 2) [.int (gi v p0 9)] m_tx_byteAt (by decide) ⟨by decide, by decide⟩ (List.mem_of_getElem? (i := 370) (by decide +kernel)) rfl (Nat.le_of_ble_eq_true rfl) h6 (by decide +kernel) (Nat.le_of_ble_eq_true rfl) rfl) (ok_tx_byteAt p0 (gi v p0 9) S v) rfl (fun x7 => ?_)
  refine sc_ri (pc3 := 57) (cf_S (idx := 159) [.int x7] m_tx_kindOf ⟨by decide, by decide⟩ (List.mem_of_getElem? (i := 377) (by decide +kernel)) rfl (Nat.le_of_ble_eq_true rfl) (by decide +kernel) (Nat.le_of_ble_eq_true rfl) rfl) (ok_tx_kindOf x7 S v) rfl (fun x8 => ?_)
  refine sim_seg [(.putfield 65, 2, 8, 0), (.aload_n 0, 0, 0, 0), (.aload_n 0, 0, 0, 0)] [] (q := 62) (L' := [some (.ref p0), none, none]) (st' := [.ref p0, .ref p0]) (v1 := (si v p0 8 x8)) (by decide +kernel) rfl ⟨h6, trivial⟩ ?_
  refine sim_lt (x := (si v p0 8 x8)) ?_
  generalize (si v p0 8 x8) = w9
  refine sim_seg [(.getfield 65, 2, 8, 0)] [] (q := 65) (L' := [some (.ref p0), none, none]) (st' := [.int (gi w9 p0 8), .ref p0]) (v1 := w9) (by decide +kernel) rfl ⟨h6, trivial⟩ ?_
  refine sim_ne0 (o := 10) (tg := 75) (f := 68) (by decide +kernel) rfl rfl (fun _ => ?_) (fun _ => ?_)
  · refine sim_seg [(.aload_n 0, 0, 0, 0), (.getfield 150, 2, 9, 0), (.goto 9, 0, 0, 0)] [] (q := 81) (L' := [some (.ref p0), none, none]) (st' := [.int (gi w9 p0 9), .ref p0]) (v1 := w9) (by decide +kernel) rfl ⟨h6, trivial⟩ ?_
    exact sK_tx_advance_81 N S w9 p0 p0 (gi w9 p0 9)
  · refine sim_seg [(.aload_n 0, 0, 0, 0), (.getfield 150, 2, 9, 0), (.iconst 1, 0, 0, 1), (.iadd, 0, 0, 0)] [] (q := 81) (L' := [some (.ref p0), none, none]) (st' := [.int ((gi w9 p0 9) + (J 1)), .ref p0]) (v1 := w9) (by decide +kernel) rfl ⟨h6, trivial⟩ ?_
    exact sK_tx_advance_81 N S w9 p0 p0 ((gi w9 p0 9) + (J 1))
noncomputable def Y_tx_advance_13 (N : Nat)  (i13 : vl → Nat → Int32 → Option vl) (S : shp) (v : vl) (p0 : Nat) (p1 : Int32) : Option vl :=
  grd (kin S p0 = some (0, 2)) <| (if p1 < (gi v p0 1) then (F_tx_byteAt p0 p1 S v).bind fun x4 => (F_tx_isSpace x4 S v).bind fun x5 => (if x5 = (J 0) then K_tx_advance_45 N  S v p0 else lt (si v p0 9 (p1 + (J 1))) fun w20 => i13 w20 p0 (p1 + (J 1))) else K_tx_advance_45 N  S v p0)
noncomputable def K_tx_advance_13 (N : Nat)  (n : Nat) (S : shp) : vl → Nat → Int32 → Option vl :=
  Nat.rec (motive := fun _ => vl → Nat → Int32 → Option vl) (fun _ _ _ => none) (fun _ i => Y_tx_advance_13 N  i S) n
theorem sY_tx_advance_13 (N : Nat)  (i13 : vl → Nat → Int32 → Option vl) (S : shp)  (j13 : ∀ (v : vl) (p0 : Nat) (p1 : Int32), SimK B_tx_advance 13 [some (.ref p0), some (.int p1), none] [] S v (i13 v p0 p1) (ρpv S)) (v : vl) (p0 : Nat) (p1 : Int32) : SimK B_tx_advance 13 [some (.ref p0), some (.int p1), none] [] S v (Y_tx_advance_13 N  i13 S v p0 p1) (ρpv S) := by
  unfold Y_tx_advance_13
  refine sim_grd fun h3 => ?_
  refine sim_seg [(.iload_n 1, 0, 0, 0), (.aload_n 0, 0, 0, 0), (.getfield 26, 2, 1, 0)] [] (q := 18) (L' := [some (.ref p0), some (.int p1), none]) (st' := [.int (gi v p0 1), .int p1]) (v1 := v) (by decide +kernel) rfl ⟨h3, trivial⟩ ?_
  refine sim_ge (o := 27) (tg := 45) (f := 21) (by decide +kernel) rfl rfl (fun _ => ?_) (fun _ => ?_)
  · refine sim_seg [(.aload_n 0, 0, 0, 0), (.iload_n 1, 0, 0, 0)] [] (q := 23) (L' := [some (.ref p0), some (.int p1), none]) (st' := [.int p1, .ref p0]) (v1 := v) (by decide +kernel) rfl trivial ?_
    refine sc_ri (pc3 := 26) (cf_V (idx := 152) (ci := 2) [.int p1] m_tx_byteAt (by decide) ⟨by decide, by decide⟩ (List.mem_of_getElem? (i := 370) (by decide +kernel)) rfl (Nat.le_of_ble_eq_true rfl) h3 (by decide +kernel) (Nat.le_of_ble_eq_true rfl) rfl) (ok_tx_byteAt p0 p1 S v) rfl (fun x4 => ?_)
    refine sc_ri (pc3 := 29) (cf_S (idx := 156) [.int x4] m_tx_isSpace ⟨by decide, by decide⟩ (List.mem_of_getElem? (i := 374) (by decide +kernel)) rfl (Nat.le_of_ble_eq_true rfl) (by decide +kernel) (Nat.le_of_ble_eq_true rfl) rfl) (ok_tx_isSpace x4 S v) rfl (fun x5 => ?_)
    refine sim_eq0 (o := 16) (tg := 45) (f := 32) (by decide +kernel) rfl rfl (fun _ => ?_) (fun _ => ?_)
    · exact sim_wk (L0 := [some (.ref p0), none, none]) ⟨rfl, trivial⟩ (sK_tx_advance_45 N S v p0)
    · refine sim_seg [(.aload_n 0, 0, 0, 0), (.iload_n 1, 0, 0, 0), (.iconst 1, 0, 0, 1), (.iadd, 0, 0, 0), (.putfield 150, 2, 9, 0), (.iinc 1 1, 0, 0, 1)] [] (q := 42) (L' := [some (.ref p0), some (.int (p1 + (J 1))), none]) (st' := []) (v1 := (si v p0 9 (p1 + (J 1)))) (by decide +kernel) rfl ⟨h3, trivial⟩ ?_
      refine sim_lt (x := (si v p0 9 (p1 + (J 1)))) ?_
      generalize (si v p0 9 (p1 + (J 1))) = w20
      refine sim_seg [(.goto (-29), 0, 0, 0)] [] (q := 13) (L' := [some (.ref p0), some (.int (p1 + (J 1))), none]) (st' := []) (v1 := w20) (by decide +kernel) rfl trivial ?_
      exact j13 w20 p0 (p1 + (J 1))
  · exact sim_wk (L0 := [some (.ref p0), none, none]) ⟨rfl, trivial⟩ (sK_tx_advance_45 N S v p0)
theorem sR_tx_advance_13 (N : Nat)  (S : shp)  (n : Nat) : ∀ (v : vl) (p0 : Nat) (p1 : Int32), SimK B_tx_advance 13 [some (.ref p0), some (.int p1), none] [] S v (K_tx_advance_13 N  n S v p0 p1) (ρpv S) := by
  induction n with
  | zero => intro v p0 p1; exact sim_none
  | succ k ih => intro v p0 p1; exact sY_tx_advance_13 N   _ S  ih v p0 p1
theorem sK_tx_advance_13 (N : Nat)  (n : Nat) (S : shp) (v : vl) (p0 : Nat) (p1 : Int32) : SimK B_tx_advance 13 [some (.ref p0), some (.int p1), none] [] S v (K_tx_advance_13 N  n S v p0 p1) (ρpv S) := sR_tx_advance_13 N   S  n  v p0 p1
noncomputable def F_tx_advance (N : Nat) (a0 : Nat) (S : shp) (v : vl) : Option vl :=
  grd (kin S a0 = some (0, 2)) <| lt (si v a0 9 (gi v a0 10)) fun w2 => K_tx_advance_13 N  N S w2 a0 (gi w2 a0 10)
theorem ok_tx_advance (N : Nat) (a0 : Nat) (S : shp) (v : vl) : SimK B_tx_advance 0 (entB (bN B_tx_advance) [.ref a0]) [] S v (F_tx_advance N a0 S v) (ρpv S) := by
  show SimK B_tx_advance 0 [some (.ref a0), none, none] [] S v (F_tx_advance N a0 S v) _
  unfold F_tx_advance
  refine sim_grd fun h1 => ?_
  refine sim_seg [(.aload_n 0, 0, 0, 0), (.aload_n 0, 0, 0, 0), (.getfield 45, 2, 10, 0), (.putfield 150, 2, 9, 0), (.aload_n 0, 0, 0, 0)] [] (q := 9) (L' := [some (.ref a0), none, none]) (st' := [.ref a0]) (v1 := (si v a0 9 (gi v a0 10))) (by decide +kernel) rfl ⟨h1, h1, trivial⟩ ?_
  refine sim_lt (x := (si v a0 9 (gi v a0 10))) ?_
  generalize (si v a0 9 (gi v a0 10)) = w2
  refine sim_seg [(.getfield 45, 2, 10, 0), (.istore_n 1, 0, 0, 0)] [] (q := 13) (L' := [some (.ref a0), some (.int (gi w2 a0 10)), none]) (st' := []) (v1 := w2) (by decide +kernel) rfl ⟨h1, trivial⟩ ?_
  exact sK_tx_advance_13 N N S w2 a0 (gi w2 a0 10)
def B_tx_fail : bd := (⟨"GateCounter$SetupText", "fail", "(I)Z"⟩, prog_4_method_13_code, 2, (some .boolean), [], 2, 0)
theorem m_tx_fail : mV B_tx_fail 2 1 := ⟨⟨⟨by decide +kernel, Or.inl rfl⟩, rfl, (List.mem_of_getElem? (i := 447) (by decide +kernel)), by decide +kernel, (List.mem_of_getElem? (i := 58) (by decide +kernel)), ⟨by decide, by decide⟩, by decide⟩, rfl, (by unfold nar; decide +kernel), (List.mem_of_getElem? (i := 446) (by decide +kernel)), rfl, (List.mem_of_getElem? (i := 10) (by decide +kernel))⟩
noncomputable def F_tx_fail (a0 : Nat) (b1 : Int32) (S : shp) (v : vl) : Option (Int32 × vl) :=
  grd (kin S a0 = some (0, 2)) <| lt (si v a0 2 b1) fun w2 => lt (si w2 a0 3 (gi w2 a0 9)) fun w3 => some (((J 0), w3))
theorem ok_tx_fail (a0 : Nat) (b1 : Int32) (S : shp) (v : vl) : SimK B_tx_fail 0 (entB (bN B_tx_fail) [.ref a0, .int b1]) [] S v (F_tx_fail a0 b1 S v) (ρpi S) := by
  show SimK B_tx_fail 0 [some (.ref a0), some (.int b1)] [] S v (F_tx_fail a0 b1 S v) _
  unfold F_tx_fail
  refine sim_grd fun h1 => ?_
  refine sim_seg [(.aload_n 0, 0, 0, 0), (.iload_n 1, 0, 0, 0), (.putfield 32, 2, 2, 0), (.aload_n 0, 0, 0, 0), (.aload_n 0, 0, 0, 0)] [] (q := 7) (L' := [some (.ref a0), some (.int b1)]) (st' := [.ref a0, .ref a0]) (v1 := (si v a0 2 b1)) (by decide +kernel) rfl ⟨h1, trivial⟩ ?_
  refine sim_lt (x := (si v a0 2 b1)) ?_
  generalize (si v a0 2 b1) = w2
  refine sim_seg [(.getfield 150, 2, 9, 0), (.putfield 22, 2, 3, 0), (.iconst 0, 0, 0, 0)] [] (q := 14) (L' := [some (.ref a0), some (.int b1)]) (st' := [.int (J 0)]) (v1 := (si w2 a0 3 (gi w2 a0 9))) (by decide +kernel) rfl ⟨h1, h1, trivial⟩ ?_
  refine sim_lt (x := (si w2 a0 3 (gi w2 a0 9))) ?_
  generalize (si w2 a0 3 (gi w2 a0 9)) = w3
  exact sim_iret (by decide +kernel) rfl (by decide) rfl
def B_js_isLatin1 : bd := (⟨"java/lang/String", "isLatin1", "()Z"⟩, prog_19_method_154_code, 1, (some .boolean), [], 9, 0)
theorem m_js_isLatin1 : mT B_js_isLatin1 0 := ⟨⟨⟨by decide +kernel, Or.inl rfl⟩, rfl, (List.mem_of_getElem? (i := 405) (by decide +kernel)), by decide +kernel, (List.mem_of_getElem? (i := 47) (by decide +kernel)), ⟨by decide, by decide⟩, by decide⟩, rfl, (by unfold nar; decide +kernel), (List.mem_of_getElem? (i := 403) (by decide +kernel)), rfl, (List.mem_of_getElem? (i := 404) (by decide +kernel))⟩
noncomputable def F_js_isLatin1 (a0 : Nat) (S : shp) (v : vl) : Option Int32 :=
  grd (kin S a0 = some (20, 0)) <| (if (gi v a0 1) = (J 0) then some ((J 1)) else some ((J 0)))
theorem ok_js_isLatin1 (a0 : Nat) (S : shp) (v : vl) : SimK B_js_isLatin1 0 (entB (bN B_js_isLatin1) [.ref a0]) [] S v (F_js_isLatin1 a0 S v) (ρri S v) := by
  show SimK B_js_isLatin1 0 [some (.ref a0)] [] S v (F_js_isLatin1 a0 S v) _
  unfold F_js_isLatin1
  refine sim_gets (idx := 38) (m := 1) (pc3 := 3) (by decide) (by decide +kernel) (show Cond.fieldLink (owns (bO B_js_isLatin1)) 38 "java/lang/String" "COMPACT_STRINGS" "Z" ∈ tb2 from (List.mem_of_getElem? (i := 397) (by decide +kernel))) rfl ?_
  show SimK _ _ _ ([.int (J 1)]) _ _ _ _
  refine sim_ifF (c := (J 1) = (J 0)) (by decide) (sim_eq0 (o := 14) (tg := 17) (f := 6) (by decide +kernel) rfl rfl (fun _ => sim_none) (fun _ => ?_))
  refine sim_seg [(.aload_n 0, 0, 0, 0)] [] (q := 7) (L' := [some (.ref a0)]) (st' := [.ref a0]) (v1 := v) (by decide +kernel) rfl trivial ?_
  refine sim_grd fun h1 => ?_
  refine sim_gett1 (idx := 15) (pc3 := 10) h1 (by decide +kernel) (List.mem_of_getElem? (i := 1206) (by decide +kernel)) rfl ?_
  refine sim_ne0 (o := 7) (tg := 17) (f := 13) (by decide +kernel) rfl rfl (fun _ => ?_) (fun _ => ?_)
  · refine sim_seg [(.iconst 1, 0, 0, 1), (.goto 4, 0, 0, 0)] [] (q := 18) (L' := [some (.ref a0)]) (st' := [.int (J 1)]) (v1 := v) (by decide +kernel) rfl trivial ?_
    exact sim_iret (by decide +kernel) rfl (by decide) rfl
  · refine sim_seg [(.iconst 0, 0, 0, 0)] [] (q := 18) (L' := [some (.ref a0)]) (st' := [.int (J 0)]) (v1 := v) (by decide +kernel) rfl trivial ?_
    exact sim_iret (by decide +kernel) rfl (by decide) rfl
def B_pr_checkIndex : bd := (⟨"jdk/internal/util/Preconditions", "checkIndex", "(IILjava/util/function/BiFunction;)I"⟩, prog_27_method_11_code, 3, (some .int), [], 11, 0)
theorem m_pr_checkIndex : mS B_pr_checkIndex 3 := ⟨⟨⟨by decide +kernel, Or.inl rfl⟩, rfl, (List.mem_of_getElem? (i := 416) (by decide +kernel)), by decide +kernel, (List.mem_of_getElem? (i := 53) (by decide +kernel)), ⟨by decide, by decide⟩, by decide⟩, rfl, (by unfold nar; decide +kernel), (List.mem_of_getElem? (i := 415) (by decide +kernel))⟩
noncomputable def F_pr_checkIndex (b0 : Int32) (b1 : Int32) (S : shp) (v : vl) : Option Int32 :=
  (if b0 < (J 0) then none else (if b0 < b1 then some (b0) else none))
theorem ok_pr_checkIndex (b0 : Int32) (b1 : Int32) (oo2 : (Option Nat)) (S : shp) (v : vl) : SimK B_pr_checkIndex 0 (entB (bN B_pr_checkIndex) [.int b0, .int b1, va_rf oo2]) [] S v (F_pr_checkIndex b0 b1 S v) (ρri S v) := by
  have eo : entB (bN B_pr_checkIndex) [.int b0, .int b1, va_rf oo2] = [some (.int b0), some (.int b1), some (va_rf oo2)] := by cases oo2 <;> rfl
  rw [eo]
  show SimK B_pr_checkIndex 0 [some (.int b0), some (.int b1), some (va_rf oo2)] [] S v (F_pr_checkIndex b0 b1 S v) _
  unfold F_pr_checkIndex
  refine sim_wk (L0 := [some (.int b0), some (.int b1), none]) ⟨rfl, rfl, trivial⟩ ?_
  refine sim_seg [(.iload_n 0, 0, 0, 0)] [] (q := 1) (L' := [some (.int b0), some (.int b1), none]) (st' := [.int b0]) (v1 := v) (by decide +kernel) rfl trivial ?_
  refine sim_lt0 (o := 8) (tg := 9) (f := 4) (by decide +kernel) rfl rfl (fun _ => ?_) (fun _ => ?_)
  · exact sim_none
  · refine sim_seg [(.iload_n 0, 0, 0, 0), (.iload_n 1, 0, 0, 0)] [] (q := 6) (L' := [some (.int b0), some (.int b1), none]) (st' := [.int b1, .int b0]) (v1 := v) (by decide +kernel) rfl trivial ?_
    refine sim_lt' (o := 10) (tg := 16) (f := 9) (by decide +kernel) rfl rfl (fun _ => ?_) (fun _ => ?_)
    · refine sim_seg [(.iload_n 0, 0, 0, 0)] [] (q := 17) (L' := [some (.int b0), some (.int b1), none]) (st' := [.int b0]) (v1 := v) (by decide +kernel) rfl trivial ?_
      exact sim_iret (by decide +kernel) rfl rfl rfl
    · exact sim_none
def B_js_checkIndex : bd := (⟨"java/lang/String", "checkIndex", "(II)V"⟩, prog_19_method_155_code, 2, none, [], 9, 1)
theorem m_js_checkIndex : mS B_js_checkIndex 2 := ⟨⟨⟨by decide +kernel, Or.inl rfl⟩, rfl, (List.mem_of_getElem? (i := 411) (by decide +kernel)), by decide +kernel, (List.mem_of_getElem? (i := 47) (by decide +kernel)), ⟨by decide, by decide⟩, by decide⟩, rfl, (by unfold nar; decide +kernel), (List.mem_of_getElem? (i := 410) (by decide +kernel))⟩
noncomputable def F_js_checkIndex (b0 : Int32) (b1 : Int32) (S : shp) (v : vl) : Option Unit :=
  (F_pr_checkIndex b0 b1 S v).bind fun x2 => some (())
theorem ok_js_checkIndex (b0 : Int32) (b1 : Int32) (S : shp) (v : vl) : SimK B_js_checkIndex 0 (entB (bN B_js_checkIndex) [.int b0, .int b1]) [] S v (F_js_checkIndex b0 b1 S v) (ρrv S v) := by
  show SimK B_js_checkIndex 0 [some (.int b0), some (.int b1)] [] S v (F_js_checkIndex b0 b1 S v) _
  unfold F_js_checkIndex
  refine sim_seg [(.iload_n 0, 0, 0, 0), (.iload_n 1, 0, 0, 0)] [] (q := 2) (L' := [some (.int b0), some (.int b1)]) (st' := [.int b1, .int b0]) (v1 := v) (by decide +kernel) rfl trivial ?_
  refine sim_getf (idx := 1053) (pc3 := 5) (by decide +kernel) (List.mem_of_getElem? (i := 412) (by decide +kernel)) rfl (fun o1 => ?_)
  refine sc_ri (pc3 := 8) (cf_S (idx := 1059) [.int b0, .int b1, va_rf o1] m_pr_checkIndex ⟨by decide, by decide⟩ (List.mem_of_getElem? (i := 414) (by decide +kernel)) rfl (by cases o1 <;> exact Nat.le_of_ble_eq_true rfl) (by decide +kernel) (Nat.le_of_ble_eq_true rfl) rfl) (ok_pr_checkIndex b0 b1 o1 S v) rfl (fun x2 => ?_)
  refine sim_seg [(.pop, 0, 0, 0)] [] (q := 9) (L' := [some (.int b0), some (.int b1)]) (st' := []) (v1 := v) (by decide +kernel) rfl trivial ?_
  exact sim_vret (by decide +kernel) rfl rfl
def B_l1_charAt : bd := (⟨"java/lang/StringLatin1", "charAt", "([BI)C"⟩, prog_21_method_2_code, 2, (some .char), [], 10, 2)
theorem m_l1_charAt : mS B_l1_charAt 2 := ⟨⟨⟨by decide +kernel, Or.inl rfl⟩, rfl, (List.mem_of_getElem? (i := 408) (by decide +kernel)), by decide +kernel, (List.mem_of_getElem? (i := 54) (by decide +kernel)), ⟨by decide, by decide⟩, by decide⟩, rfl, (by unfold nar; decide +kernel), (List.mem_of_getElem? (i := 407) (by decide +kernel))⟩
noncomputable def F_l1_charAt (a0 : Nat) (b1 : Int32) (S : shp) (v : vl) : Option Int32 :=
  grd (isArr (kin S a0)) <| (F_js_checkIndex b1 (nI (alen S a0)) S v).bind fun _ => grd ((kin S a0 = some (2, alen S a0) ∨ kin S a0 = some (12, alen S a0))) <| grd (vp_in b1 (alen S a0)) <| lt (UInt32.toInt32 (Int32.toUInt32 ((gi v a0 (Int32.toNatClampNeg b1)) &&& (J 255)) % 65536)) fun x4 => grd (narrow .char (.int x4) = .int x4) <| some (x4)
theorem ok_l1_charAt (a0 : Nat) (b1 : Int32) (S : shp) (v : vl) : SimK B_l1_charAt 0 (entB (bN B_l1_charAt) [.ref a0, .int b1]) [] S v (F_l1_charAt a0 b1 S v) (ρri S v) := by
  show SimK B_l1_charAt 0 [some (.ref a0), some (.int b1)] [] S v (F_l1_charAt a0 b1 S v) _
  unfold F_l1_charAt
  refine sim_grd fun h1 => ?_
  refine sim_seg [(.iload_n 1, 0, 0, 0), (.aload_n 0, 0, 0, 0), (.arraylength, 0, 0, 0)] [] (q := 3) (L' := [some (.ref a0), some (.int b1)]) (st' := [.int (nI (alen S a0)), .int b1]) (v1 := v) (by decide +kernel) rfl ⟨h1, trivial⟩ ?_
  refine sc_rv (pc3 := 6) (cf_S (idx := 9) [.int b1, .int (nI (alen S a0))] m_js_checkIndex ⟨by decide, by decide⟩ (List.mem_of_getElem? (i := 409) (by decide +kernel)) rfl (Nat.le_of_ble_eq_true rfl) (by decide +kernel) (Nat.le_of_ble_eq_true rfl) rfl) (ok_js_checkIndex b1 (nI (alen S a0)) S v) rfl (fun _ => ?_)
  refine sim_grd fun h2 => ?_
  refine sim_grd fun h3 => ?_
  refine sim_seg [(.aload_n 0, 0, 0, 0), (.iload_n 1, 0, 0, 0), (.baload, 0, 0, 0), (.sipush 255, 0, 0, 255), (.iand, 0, 0, 0), (.i2c, 0, 0, 0)] [] (q := 14) (L' := [some (.ref a0), some (.int b1)]) (st' := [.int (UInt32.toInt32 (Int32.toUInt32 ((gi v a0 (Int32.toNatClampNeg b1)) &&& (J 255)) % 65536))]) (v1 := v) (by decide +kernel) rfl ⟨⟨h2, h3⟩, trivial⟩ ?_
  refine sim_nm (UInt32.toInt32 (Int32.toUInt32 ((gi v a0 (Int32.toNatClampNeg b1)) &&& (J 255)) % 65536)) (fun x4 => [some (.ref a0), some (.int b1)]) (fun x4 => [.int x4]) (fun x4 => ?_) rfl rfl
  refine sim_grd fun h5 => ?_
  exact sim_iret (by decide +kernel) rfl h5 rfl
def B_js_charAt : bd := (⟨"java/lang/String", "charAt", "(I)C"⟩, prog_19_method_56_code, 2, (some .char), [], 9, 3)
theorem m_js_charAt : mT B_js_charAt 1 := ⟨⟨⟨by decide +kernel, Or.inl rfl⟩, rfl, (List.mem_of_getElem? (i := 401) (by decide +kernel)), by decide +kernel, (List.mem_of_getElem? (i := 47) (by decide +kernel)), ⟨by decide, by decide⟩, by decide⟩, rfl, (by unfold nar; decide +kernel), (List.mem_of_getElem? (i := 399) (by decide +kernel)), rfl, (List.mem_of_getElem? (i := 400) (by decide +kernel))⟩
noncomputable def F_js_charAt (a0 : Nat) (b1 : Int32) (S : shp) (v : vl) : Option Int32 :=
  grd (kin S a0 = some (20, 0)) <| (F_js_isLatin1 a0 S v).bind fun x2 => (if x2 = (J 0) then none else (gr S a0 0).bind fun r3 => (F_l1_charAt r3 b1 S v).bind fun x5 => grd (narrow .char (.int x5) = .int x5) <| some (x5))
theorem ok_js_charAt (a0 : Nat) (b1 : Int32) (S : shp) (v : vl) : SimK B_js_charAt 0 (entB (bN B_js_charAt) [.ref a0, .int b1]) [] S v (F_js_charAt a0 b1 S v) (ρri S v) := by
  show SimK B_js_charAt 0 [some (.ref a0), some (.int b1)] [] S v (F_js_charAt a0 b1 S v) _
  unfold F_js_charAt
  refine sim_seg [(.aload_n 0, 0, 0, 0)] [] (q := 1) (L' := [some (.ref a0), some (.int b1)]) (st' := [.ref a0]) (v1 := v) (by decide +kernel) rfl trivial ?_
  refine sim_grd fun h1 => ?_
  refine sc_ri (pc3 := 4) (cf_T (idx := 492) [] m_js_isLatin1 ⟨by decide, by decide⟩ (List.mem_of_getElem? (i := 402) (by decide +kernel)) rfl (Nat.le_of_ble_eq_true rfl) h1 (by decide +kernel) (Nat.le_of_ble_eq_true rfl) rfl) (ok_js_isLatin1 a0 S v) rfl (fun x2 => ?_)
  refine sim_eq0 (o := 12) (tg := 16) (f := 7) (by decide +kernel) rfl rfl (fun _ => ?_) (fun _ => ?_)
  · exact sim_none
  · refine sim_seg [(.aload_n 0, 0, 0, 0)] [] (q := 8) (L' := [some (.ref a0), some (.int b1)]) (st' := [.ref a0]) (v1 := v) (by decide +kernel) rfl trivial ?_
    refine sim_bind fun r3 h4 => ?_
    refine sim_gett0 (idx := 9) (pc3 := 11) h1 h4 (by decide +kernel) (List.mem_of_getElem? (i := 1205) (by decide +kernel)) rfl ?_
    refine sim_seg [(.iload_n 1, 0, 0, 0)] [] (q := 12) (L' := [some (.ref a0), some (.int b1)]) (st' := [.int b1, .ref r3]) (v1 := v) (by decide +kernel) rfl trivial ?_
    refine sc_ri (pc3 := 15) (cf_S (idx := 495) [.ref r3, .int b1] m_l1_charAt ⟨by decide, by decide⟩ (List.mem_of_getElem? (i := 406) (by decide +kernel)) rfl (Nat.le_of_ble_eq_true rfl) (by decide +kernel) (Nat.le_of_ble_eq_true rfl) rfl) (ok_l1_charAt r3 b1 S v) rfl (fun x5 => ?_)
    refine sim_grd fun h6 => ?_
    exact sim_iret (by decide +kernel) rfl h6 rfl
def B_js_coder : bd := (⟨"java/lang/String", "coder", "()B"⟩, prog_19_method_152_code, 1, (some .byte), [], 9, 0)
theorem m_js_coder : mT B_js_coder 0 := ⟨⟨⟨by decide +kernel, Or.inl rfl⟩, rfl, (List.mem_of_getElem? (i := 396) (by decide +kernel)), by decide +kernel, (List.mem_of_getElem? (i := 47) (by decide +kernel)), ⟨by decide, by decide⟩, by decide⟩, rfl, (by unfold nar; decide +kernel), (List.mem_of_getElem? (i := 394) (by decide +kernel)), rfl, (List.mem_of_getElem? (i := 395) (by decide +kernel))⟩
noncomputable def F_js_coder (a0 : Nat) (S : shp) (v : vl) : Option Int32 :=
  grd (kin S a0 = some (20, 0)) <| grd (narrow .byte (.int (gi v a0 1)) = .int (gi v a0 1)) <| some ((gi v a0 1))
theorem ok_js_coder (a0 : Nat) (S : shp) (v : vl) : SimK B_js_coder 0 (entB (bN B_js_coder) [.ref a0]) [] S v (F_js_coder a0 S v) (ρri S v) := by
  show SimK B_js_coder 0 [some (.ref a0)] [] S v (F_js_coder a0 S v) _
  unfold F_js_coder
  refine sim_gets (idx := 38) (m := 1) (pc3 := 3) (by decide) (by decide +kernel) (show Cond.fieldLink (owns (bO B_js_coder)) 38 "java/lang/String" "COMPACT_STRINGS" "Z" ∈ tb2 from (List.mem_of_getElem? (i := 397) (by decide +kernel))) rfl ?_
  show SimK _ _ _ ([.int (J 1)]) _ _ _ _
  refine sim_ifF (c := (J 1) = (J 0)) (by decide) (sim_eq0 (o := 10) (tg := 13) (f := 6) (by decide +kernel) rfl rfl (fun _ => sim_none) (fun _ => ?_))
  refine sim_seg [(.aload_n 0, 0, 0, 0)] [] (q := 7) (L' := [some (.ref a0)]) (st' := [.ref a0]) (v1 := v) (by decide +kernel) rfl trivial ?_
  refine sim_grd fun h1 => ?_
  refine sim_gett1 (idx := 15) (pc3 := 10) h1 (by decide +kernel) (List.mem_of_getElem? (i := 1206) (by decide +kernel)) rfl ?_
  refine sim_seg [(.goto 4, 0, 0, 0)] [] (q := 14) (L' := [some (.ref a0)]) (st' := [.int (gi v a0 1)]) (v1 := v) (by decide +kernel) rfl trivial ?_
  refine sim_grd fun h2 => ?_
  exact sim_iret (by decide +kernel) rfl h2 rfl
def B_js_length : bd := (⟨"java/lang/String", "length", "()I"⟩, prog_19_method_54_code, 1, (some .int), [], 9, 1)
theorem m_js_length : mT B_js_length 0 := ⟨⟨⟨by decide +kernel, Or.inl rfl⟩, rfl, (List.mem_of_getElem? (i := 392) (by decide +kernel)), by decide +kernel, (List.mem_of_getElem? (i := 47) (by decide +kernel)), ⟨by decide, by decide⟩, by decide⟩, rfl, (by unfold nar; decide +kernel), (List.mem_of_getElem? (i := 390) (by decide +kernel)), rfl, (List.mem_of_getElem? (i := 391) (by decide +kernel))⟩
noncomputable def F_js_length (a0 : Nat) (S : shp) (v : vl) : Option Int32 :=
  grd (kin S a0 = some (20, 0)) <| (gr S a0 0).bind fun r2 => grd (isArr (kin S r2)) <| (F_js_coder a0 S v).bind fun x5 => some (((nI (alen S r2)) >>> (x5 &&& 31)))
theorem ok_js_length (a0 : Nat) (S : shp) (v : vl) : SimK B_js_length 0 (entB (bN B_js_length) [.ref a0]) [] S v (F_js_length a0 S v) (ρri S v) := by
  show SimK B_js_length 0 [some (.ref a0)] [] S v (F_js_length a0 S v) _
  unfold F_js_length
  refine sim_seg [(.aload_n 0, 0, 0, 0)] [] (q := 1) (L' := [some (.ref a0)]) (st' := [.ref a0]) (v1 := v) (by decide +kernel) rfl trivial ?_
  refine sim_grd fun h1 => ?_
  refine sim_bind fun r2 h3 => ?_
  refine sim_gett0 (idx := 9) (pc3 := 4) h1 h3 (by decide +kernel) (List.mem_of_getElem? (i := 1205) (by decide +kernel)) rfl ?_
  refine sim_grd fun h4 => ?_
  refine sim_seg [(.arraylength, 0, 0, 0), (.aload_n 0, 0, 0, 0)] [] (q := 6) (L' := [some (.ref a0)]) (st' := [.ref a0, .int (nI (alen S r2))]) (v1 := v) (by decide +kernel) rfl ⟨h4, trivial⟩ ?_
  refine sc_ri (pc3 := 9) (cf_T (idx := 335) [] m_js_coder ⟨by decide, by decide⟩ (List.mem_of_getElem? (i := 393) (by decide +kernel)) rfl (Nat.le_of_ble_eq_true rfl) h1 (by decide +kernel) (Nat.le_of_ble_eq_true rfl) rfl) (ok_js_coder a0 S v) rfl (fun x5 => ?_)
  refine sim_seg [(.ishr, 0, 0, 0)] [] (q := 10) (L' := [some (.ref a0)]) (st' := [.int ((nI (alen S r2)) >>> (x5 &&& 31))]) (v1 := v) (by decide +kernel) rfl trivial ?_
  exact sim_iret (by decide +kernel) rfl rfl rfl
def B_tx_isWord : bd := (⟨"GateCounter$SetupText", "isWord", "(Ljava/lang/String;)Z"⟩, prog_4_method_16_code, 3, (some .boolean), [], 2, 4)
theorem m_tx_isWord : mV B_tx_isWord 2 1 := ⟨⟨⟨by decide +kernel, Or.inl rfl⟩, rfl, (List.mem_of_getElem? (i := 388) (by decide +kernel)), by decide +kernel, (List.mem_of_getElem? (i := 58) (by decide +kernel)), ⟨by decide, by decide⟩, by decide⟩, rfl, (by unfold nar; decide +kernel), (List.mem_of_getElem? (i := 387) (by decide +kernel)), rfl, (List.mem_of_getElem? (i := 7) (by decide +kernel))⟩
noncomputable def Y_tx_isWord_28 (N : Nat)  (i28 : Nat → Nat → Int32 → Option Int32) (S : shp) (v : vl)  (p0 : Nat) (p1 : Nat) (p2 : Int32) : Option Int32 :=
  grd (kin S p1 = some (20, 0)) <| (F_js_length p1 S v).bind fun x5 => (if p2 < x5 then grd (kin S p0 = some (0, 2)) <| (F_tx_byteAt p0 ((gi v p0 9) + p2) S v).bind fun x7 => (F_js_charAt p1 p2 S v).bind fun x8 => (if x7 = x8 then i28 p0 p1 (p2 + (J 1)) else some ((J 0))) else some ((J 1)))
noncomputable def K_tx_isWord_28 (N : Nat)  (n : Nat) (S : shp) (v : vl) : Nat → Nat → Int32 → Option Int32 :=
  Nat.rec (motive := fun _ => Nat → Nat → Int32 → Option Int32) (fun _ _ _ => none) (fun _ i => Y_tx_isWord_28 N  i S v) n
theorem sY_tx_isWord_28 (N : Nat)  (i28 : Nat → Nat → Int32 → Option Int32) (S : shp) (v : vl)  (j28 : ∀ (p0 : Nat) (p1 : Nat) (p2 : Int32), SimK B_tx_isWord 28 [some (.ref p0), some (.ref p1), some (.int p2)] [] S v (i28 p0 p1 p2) (ρri S v))  (p0 : Nat) (p1 : Nat) (p2 : Int32) : SimK B_tx_isWord 28 [some (.ref p0), some (.ref p1), some (.int p2)] [] S v (Y_tx_isWord_28 N  i28 S v  p0 p1 p2) (ρri S v) := by
  unfold Y_tx_isWord_28
  refine sim_seg [(.iload_n 2, 0, 0, 0), (.aload_n 1, 0, 0, 0)] [] (q := 30) (L' := [some (.ref p0), some (.ref p1), some (.int p2)]) (st' := [.ref p1, .int p2]) (v1 := v) (by decide +kernel) rfl trivial ?_
  refine sim_grd fun h4 => ?_
  refine sc_ri (pc3 := 33) (cf_T (idx := 165) [] m_js_length ⟨by decide, by decide⟩ (List.mem_of_getElem? (i := 389) (by decide +kernel)) rfl (Nat.le_of_ble_eq_true rfl) h4 (by decide +kernel) (Nat.le_of_ble_eq_true rfl) rfl) (ok_js_length p1 S v) rfl (fun x5 => ?_)
  refine sim_ge (o := 29) (tg := 62) (f := 36) (by decide +kernel) rfl rfl (fun _ => ?_) (fun _ => ?_)
  · refine sim_grd fun h6 => ?_
    refine sim_seg [(.aload_n 0, 0, 0, 0), (.aload_n 0, 0, 0, 0), (.getfield 150, 2, 9, 0), (.iload_n 2, 0, 0, 0), (.iadd, 0, 0, 0)] [] (q := 43) (L' := [some (.ref p0), some (.ref p1), some (.int p2)]) (st' := [.int ((gi v p0 9) + p2), .ref p0]) (v1 := v) (by decide +kernel) rfl ⟨h6, trivial⟩ ?_
    refine sc_ri (pc3 := 46) (cf_V (idx := 152) (ci := 2) [.int ((gi v p0 9) + p2)] m_tx_byteAt (by decide) ⟨by decide, by decide⟩ (List.mem_of_getElem? (i := 370) (by decide +kernel)) rfl (Nat.le_of_ble_eq_true rfl) h6 (by decide +kernel) (Nat.le_of_ble_eq_true rfl) rfl) (ok_tx_byteAt p0 ((gi v p0 9) + p2) S v) rfl (fun x7 => ?_)
    refine sim_seg [(.aload_n 1, 0, 0, 0), (.iload_n 2, 0, 0, 0)] [] (q := 48) (L' := [some (.ref p0), some (.ref p1), some (.int p2)]) (st' := [.int p2, .ref p1, .int x7]) (v1 := v) (by decide +kernel) rfl trivial ?_
    refine sc_ri (pc3 := 51) (cf_T (idx := 169) [.int p2] m_js_charAt ⟨by decide, by decide⟩ (List.mem_of_getElem? (i := 398) (by decide +kernel)) rfl (Nat.le_of_ble_eq_true rfl) h4 (by decide +kernel) (Nat.le_of_ble_eq_true rfl) rfl) (ok_js_charAt p1 p2 S v) rfl (fun x8 => ?_)
    refine sim_eq (o := 5) (tg := 56) (f := 54) (by decide +kernel) rfl rfl (fun _ => ?_) (fun _ => ?_)
    · refine sim_seg [(.iinc 2 1, 0, 0, 1)] [] (q := 59) (L' := [some (.ref p0), some (.ref p1), some (.int (p2 + (J 1)))]) (st' := []) (v1 := v) (by decide +kernel) rfl trivial ?_
      refine sim_seg [(.goto (-31), 0, 0, 0)] [] (q := 28) (L' := [some (.ref p0), some (.ref p1), some (.int (p2 + (J 1)))]) (st' := []) (v1 := v) (by decide +kernel) rfl trivial ?_
      exact j28 p0 p1 (p2 + (J 1))
    · refine sim_seg [(.iconst 0, 0, 0, 0)] [] (q := 55) (L' := [some (.ref p0), some (.ref p1), some (.int p2)]) (st' := [.int (J 0)]) (v1 := v) (by decide +kernel) rfl trivial ?_
      exact sim_iret (by decide +kernel) rfl (by decide) rfl
  · refine sim_seg [(.iconst 1, 0, 0, 1)] [] (q := 63) (L' := [some (.ref p0), some (.ref p1), some (.int p2)]) (st' := [.int (J 1)]) (v1 := v) (by decide +kernel) rfl trivial ?_
    exact sim_iret (by decide +kernel) rfl (by decide) rfl
theorem sR_tx_isWord_28 (N : Nat)  (S : shp) (v : vl)  (n : Nat) : ∀  (p0 : Nat) (p1 : Nat) (p2 : Int32), SimK B_tx_isWord 28 [some (.ref p0), some (.ref p1), some (.int p2)] [] S v (K_tx_isWord_28 N  n S v  p0 p1 p2) (ρri S v) := by
  induction n with
  | zero => intro p0 p1 p2; exact sim_none
  | succ k ih => intro p0 p1 p2; exact sY_tx_isWord_28 N   _ S v  ih p0 p1 p2
theorem sK_tx_isWord_28 (N : Nat)  (n : Nat) (S : shp) (v : vl) (p0 : Nat) (p1 : Nat) (p2 : Int32) : SimK B_tx_isWord 28 [some (.ref p0), some (.ref p1), some (.int p2)] [] S v (K_tx_isWord_28 N  n S v  p0 p1 p2) (ρri S v) := sR_tx_isWord_28 N   S v  n  p0 p1 p2
noncomputable def F_tx_isWord (N : Nat) (a0 : Nat) (a1 : Nat) (S : shp) (v : vl) : Option Int32 :=
  grd (kin S a0 = some (0, 2)) <| (if (gi v a0 8) = (J 1) then grd (kin S a1 = some (20, 0)) <| (F_js_length a1 S v).bind fun x3 => (if ((gi v a0 10) - (gi v a0 9)) = x3 then K_tx_isWord_28 N  N S v a0 a1 (J 0) else some ((J 0))) else some ((J 0)))
theorem ok_tx_isWord (N : Nat) (a0 : Nat) (a1 : Nat) (S : shp) (v : vl) : SimK B_tx_isWord 0 (entB (bN B_tx_isWord) [.ref a0, .ref a1]) [] S v (F_tx_isWord N a0 a1 S v) (ρri S v) := by
  show SimK B_tx_isWord 0 [some (.ref a0), some (.ref a1), none] [] S v (F_tx_isWord N a0 a1 S v) _
  unfold F_tx_isWord
  refine sim_grd fun h1 => ?_
  refine sim_seg [(.aload_n 0, 0, 0, 0), (.getfield 65, 2, 8, 0), (.iconst 1, 0, 0, 1)] [] (q := 5) (L' := [some (.ref a0), some (.ref a1), none]) (st' := [.int (J 1), .int (gi v a0 8)]) (v1 := v) (by decide +kernel) rfl ⟨h1, trivial⟩ ?_
  refine sim_ne (o := 19) (tg := 24) (f := 8) (by decide +kernel) rfl rfl (fun _ => ?_) (fun _ => ?_)
  · refine sim_seg [(.aload_n 0, 0, 0, 0), (.getfield 45, 2, 10, 0), (.aload_n 0, 0, 0, 0), (.getfield 150, 2, 9, 0), (.isub, 0, 0, 0), (.aload_n 1, 0, 0, 0)] [] (q := 18) (L' := [some (.ref a0), some (.ref a1), none]) (st' := [.ref a1, .int ((gi v a0 10) - (gi v a0 9))]) (v1 := v) (by decide +kernel) rfl ⟨h1, h1, trivial⟩ ?_
    refine sim_grd fun h2 => ?_
    refine sc_ri (pc3 := 21) (cf_T (idx := 165) [] m_js_length ⟨by decide, by decide⟩ (List.mem_of_getElem? (i := 389) (by decide +kernel)) rfl (Nat.le_of_ble_eq_true rfl) h2 (by decide +kernel) (Nat.le_of_ble_eq_true rfl) rfl) (ok_js_length a1 S v) rfl (fun x3 => ?_)
    refine sim_eq (o := 5) (tg := 26) (f := 24) (by decide +kernel) rfl rfl (fun _ => ?_) (fun _ => ?_)
    · refine sim_seg [(.iconst 0, 0, 0, 0), (.istore_n 2, 0, 0, 0)] [] (q := 28) (L' := [some (.ref a0), some (.ref a1), some (.int (J 0))]) (st' := []) (v1 := v) (by decide +kernel) rfl trivial ?_
      exact sK_tx_isWord_28 N N S v a0 a1 (J 0)
    · refine sim_seg [(.iconst 0, 0, 0, 0)] [] (q := 25) (L' := [some (.ref a0), some (.ref a1), none]) (st' := [.int (J 0)]) (v1 := v) (by decide +kernel) rfl trivial ?_
      exact sim_iret (by decide +kernel) rfl (by decide) rfl
  · refine sim_seg [(.iconst 0, 0, 0, 0)] [] (q := 25) (L' := [some (.ref a0), some (.ref a1), none]) (st' := [.int (J 0)]) (v1 := v) (by decide +kernel) rfl trivial ?_
    exact sim_iret (by decide +kernel) rfl (by decide) rfl
def B_tx_takeNumber : bd := (⟨"GateCounter$SetupText", "takeNumber", "(II)Z"⟩, prog_4_method_10_code, 3, (some .boolean), [], 2, 3)
theorem m_tx_takeNumber : mV B_tx_takeNumber 2 2 := ⟨⟨⟨by decide +kernel, Or.inl rfl⟩, rfl, (List.mem_of_getElem? (i := 443) (by decide +kernel)), by decide +kernel, (List.mem_of_getElem? (i := 58) (by decide +kernel)), ⟨by decide, by decide⟩, by decide⟩, rfl, (by unfold nar; decide +kernel), (List.mem_of_getElem? (i := 442) (by decide +kernel)), rfl, (List.mem_of_getElem? (i := 9) (by decide +kernel))⟩
noncomputable def F_tx_takeNumber (N : Nat) (a0 : Nat) (b1 : Int32) (b2 : Int32) (S : shp) (v : vl) : Option (Int32 × vl) :=
  grd (kin S a0 = some (0, 2)) <| (if (gi v a0 8) = (J 2) then (if (gi v a0 11) < b1 then (F_tx_fail a0 (J 2) S v).bind fun (x2, w3) => grd (narrow .boolean (.int x2) = .int x2) <| some ((x2, w3)) else (if b2 < (gi v a0 11) then (F_tx_fail a0 (J 2) S v).bind fun (x5, w6) => grd (narrow .boolean (.int x5) = .int x5) <| some ((x5, w6)) else lt (si v a0 12 (gi v a0 11)) fun w8 => (F_tx_advance N a0 S w8).bind fun w9 => some (((J 1), w9)))) else (F_tx_fail a0 (J 1) S v).bind fun (x10, w11) => grd (narrow .boolean (.int x10) = .int x10) <| some ((x10, w11)))
theorem ok_tx_takeNumber (N : Nat) (a0 : Nat) (b1 : Int32) (b2 : Int32) (S : shp) (v : vl) : SimK B_tx_takeNumber 0 (entB (bN B_tx_takeNumber) [.ref a0, .int b1, .int b2]) [] S v (F_tx_takeNumber N a0 b1 b2 S v) (ρpi S) := by
  show SimK B_tx_takeNumber 0 [some (.ref a0), some (.int b1), some (.int b2)] [] S v (F_tx_takeNumber N a0 b1 b2 S v) _
  unfold F_tx_takeNumber
  refine sim_grd fun h1 => ?_
  refine sim_seg [(.aload_n 0, 0, 0, 0), (.getfield 65, 2, 8, 0), (.iconst 2, 0, 0, 2)] [] (q := 5) (L' := [some (.ref a0), some (.int b1), some (.int b2)]) (st' := [.int (J 2), .int (gi v a0 8)]) (v1 := v) (by decide +kernel) rfl ⟨h1, trivial⟩ ?_
  refine sim_eq (o := 9) (tg := 14) (f := 8) (by decide +kernel) rfl rfl (fun _ => ?_) (fun _ => ?_)
  · refine sim_seg [(.aload_n 0, 0, 0, 0), (.getfield 117, 2, 11, 0), (.iload_n 1, 0, 0, 0)] [] (q := 19) (L' := [some (.ref a0), some (.int b1), some (.int b2)]) (st' := [.int b1, .int (gi v a0 11)]) (v1 := v) (by decide +kernel) rfl ⟨h1, trivial⟩ ?_
    refine sim_lt' (o := 11) (tg := 30) (f := 22) (by decide +kernel) rfl rfl (fun _ => ?_) (fun _ => ?_)
    · refine sim_seg [(.aload_n 0, 0, 0, 0), (.iconst 2, 0, 0, 2)] [] (q := 32) (L' := [some (.ref a0), some (.int b1), some (.int b2)]) (st' := [.int (J 2), .ref a0]) (v1 := v) (by decide +kernel) rfl trivial ?_
      refine sc_pi (pc3 := 35) (cf_V (idx := 61) (ci := 2) [.int (J 2)] m_tx_fail (by decide) ⟨by decide, by decide⟩ (List.mem_of_getElem? (i := 444) (by decide +kernel)) rfl (Nat.le_of_ble_eq_true rfl) h1 (by decide +kernel) (Nat.le_of_ble_eq_true rfl) rfl) (ok_tx_fail a0 (J 2) S v) rfl (fun x2 w3 => ?_)
      refine sim_grd fun h4 => ?_
      exact sim_iret (by decide +kernel) rfl h4 rfl
    · refine sim_seg [(.aload_n 0, 0, 0, 0), (.getfield 117, 2, 11, 0), (.iload_n 2, 0, 0, 0)] [] (q := 27) (L' := [some (.ref a0), some (.int b1), some (.int b2)]) (st' := [.int b2, .int (gi v a0 11)]) (v1 := v) (by decide +kernel) rfl ⟨h1, trivial⟩ ?_
      refine sim_le (o := 9) (tg := 36) (f := 30) (by decide +kernel) rfl rfl (fun _ => ?_) (fun _ => ?_)
      · refine sim_seg [(.aload_n 0, 0, 0, 0), (.iconst 2, 0, 0, 2)] [] (q := 32) (L' := [some (.ref a0), some (.int b1), some (.int b2)]) (st' := [.int (J 2), .ref a0]) (v1 := v) (by decide +kernel) rfl trivial ?_
        refine sc_pi (pc3 := 35) (cf_V (idx := 61) (ci := 2) [.int (J 2)] m_tx_fail (by decide) ⟨by decide, by decide⟩ (List.mem_of_getElem? (i := 444) (by decide +kernel)) rfl (Nat.le_of_ble_eq_true rfl) h1 (by decide +kernel) (Nat.le_of_ble_eq_true rfl) rfl) (ok_tx_fail a0 (J 2) S v) rfl (fun x5 w6 => ?_)
        refine sim_grd fun h7 => ?_
        exact sim_iret (by decide +kernel) rfl h7 rfl
      · refine sim_seg [(.aload_n 0, 0, 0, 0), (.aload_n 0, 0, 0, 0), (.getfield 117, 2, 11, 0), (.putfield 75, 2, 12, 0), (.aload_n 0, 0, 0, 0)] [] (q := 45) (L' := [some (.ref a0), some (.int b1), some (.int b2)]) (st' := [.ref a0]) (v1 := (si v a0 12 (gi v a0 11))) (by decide +kernel) rfl ⟨h1, h1, trivial⟩ ?_
        refine sim_lt (x := (si v a0 12 (gi v a0 11))) ?_
        generalize (si v a0 12 (gi v a0 11)) = w8
        refine sc_pv (pc3 := 48) (cf_V (idx := 48) (ci := 2) [] m_tx_advance (by decide) ⟨by decide, by decide⟩ (List.mem_of_getElem? (i := 366) (by decide +kernel)) rfl (Nat.le_of_ble_eq_true rfl) h1 (by decide +kernel) (Nat.le_of_ble_eq_true rfl) rfl) (ok_tx_advance N a0 S w8) rfl (fun w9 => ?_)
        refine sim_seg [(.iconst 1, 0, 0, 1)] [] (q := 49) (L' := [some (.ref a0), some (.int b1), some (.int b2)]) (st' := [.int (J 1)]) (v1 := w9) (by decide +kernel) rfl trivial ?_
        exact sim_iret (by decide +kernel) rfl (by decide) rfl
  · refine sim_seg [(.aload_n 0, 0, 0, 0), (.iconst 1, 0, 0, 1)] [] (q := 10) (L' := [some (.ref a0), some (.int b1), some (.int b2)]) (st' := [.int (J 1), .ref a0]) (v1 := v) (by decide +kernel) rfl trivial ?_
    refine sc_pi (pc3 := 13) (cf_V (idx := 61) (ci := 2) [.int (J 1)] m_tx_fail (by decide) ⟨by decide, by decide⟩ (List.mem_of_getElem? (i := 444) (by decide +kernel)) rfl (Nat.le_of_ble_eq_true rfl) h1 (by decide +kernel) (Nat.le_of_ble_eq_true rfl) rfl) (ok_tx_fail a0 (J 1) S v) rfl (fun x10 w11 => ?_)
    refine sim_grd fun h12 => ?_
    exact sim_iret (by decide +kernel) rfl h12 rfl
def B_tx_takeSemicolon : bd := (⟨"GateCounter$SetupText", "takeSemicolon", "()Z"⟩, prog_4_method_12_code, 1, (some .boolean), [], 2, 3)
theorem m_tx_takeSemicolon : mV B_tx_takeSemicolon 2 0 := ⟨⟨⟨by decide +kernel, Or.inl rfl⟩, rfl, (List.mem_of_getElem? (i := 458) (by decide +kernel)), by decide +kernel, (List.mem_of_getElem? (i := 58) (by decide +kernel)), ⟨by decide, by decide⟩, by decide⟩, rfl, (by unfold nar; decide +kernel), (List.mem_of_getElem? (i := 457) (by decide +kernel)), rfl, (List.mem_of_getElem? (i := 12) (by decide +kernel))⟩
noncomputable def F_tx_takeSemicolon (N : Nat) (a0 : Nat) (S : shp) (v : vl) : Option (Int32 × vl) :=
  grd (kin S a0 = some (0, 2)) <| (if (gi v a0 8) = (J 3) then (F_tx_advance N a0 S v).bind fun w2 => some (((J 1), w2)) else (F_tx_fail a0 (J 1) S v).bind fun (x3, w4) => grd (narrow .boolean (.int x3) = .int x3) <| some ((x3, w4)))
theorem ok_tx_takeSemicolon (N : Nat) (a0 : Nat) (S : shp) (v : vl) : SimK B_tx_takeSemicolon 0 (entB (bN B_tx_takeSemicolon) [.ref a0]) [] S v (F_tx_takeSemicolon N a0 S v) (ρpi S) := by
  show SimK B_tx_takeSemicolon 0 [some (.ref a0)] [] S v (F_tx_takeSemicolon N a0 S v) _
  unfold F_tx_takeSemicolon
  refine sim_grd fun h1 => ?_
  refine sim_seg [(.aload_n 0, 0, 0, 0), (.getfield 65, 2, 8, 0), (.iconst 3, 0, 0, 3)] [] (q := 5) (L' := [some (.ref a0)]) (st' := [.int (J 3), .int (gi v a0 8)]) (v1 := v) (by decide +kernel) rfl ⟨h1, trivial⟩ ?_
  refine sim_eq (o := 9) (tg := 14) (f := 8) (by decide +kernel) rfl rfl (fun _ => ?_) (fun _ => ?_)
  · refine sim_seg [(.aload_n 0, 0, 0, 0)] [] (q := 15) (L' := [some (.ref a0)]) (st' := [.ref a0]) (v1 := v) (by decide +kernel) rfl trivial ?_
    refine sc_pv (pc3 := 18) (cf_V (idx := 48) (ci := 2) [] m_tx_advance (by decide) ⟨by decide, by decide⟩ (List.mem_of_getElem? (i := 366) (by decide +kernel)) rfl (Nat.le_of_ble_eq_true rfl) h1 (by decide +kernel) (Nat.le_of_ble_eq_true rfl) rfl) (ok_tx_advance N a0 S v) rfl (fun w2 => ?_)
    refine sim_seg [(.iconst 1, 0, 0, 1)] [] (q := 19) (L' := [some (.ref a0)]) (st' := [.int (J 1)]) (v1 := w2) (by decide +kernel) rfl trivial ?_
    exact sim_iret (by decide +kernel) rfl (by decide) rfl
  · refine sim_seg [(.aload_n 0, 0, 0, 0), (.iconst 1, 0, 0, 1)] [] (q := 10) (L' := [some (.ref a0)]) (st' := [.int (J 1), .ref a0]) (v1 := v) (by decide +kernel) rfl trivial ?_
    refine sc_pi (pc3 := 13) (cf_V (idx := 61) (ci := 2) [.int (J 1)] m_tx_fail (by decide) ⟨by decide, by decide⟩ (List.mem_of_getElem? (i := 444) (by decide +kernel)) rfl (Nat.le_of_ble_eq_true rfl) h1 (by decide +kernel) (Nat.le_of_ble_eq_true rfl) rfl) (ok_tx_fail a0 (J 1) S v) rfl (fun x3 w4 => ?_)
    refine sim_grd fun h5 => ?_
    exact sim_iret (by decide +kernel) rfl h5 rfl
def B_tx_takeSigned : bd := (⟨"GateCounter$SetupText", "takeSigned", "(I)Z"⟩, prog_4_method_11_code, 3, (some .boolean), [], 2, 4)
theorem m_tx_takeSigned : mV B_tx_takeSigned 2 1 := ⟨⟨⟨by decide +kernel, Or.inl rfl⟩, rfl, (List.mem_of_getElem? (i := 452) (by decide +kernel)), by decide +kernel, (List.mem_of_getElem? (i := 58) (by decide +kernel)), ⟨by decide, by decide⟩, by decide⟩, rfl, (by unfold nar; decide +kernel), (List.mem_of_getElem? (i := 451) (by decide +kernel)), rfl, (List.mem_of_getElem? (i := 11) (by decide +kernel))⟩
noncomputable def K_tx_takeSigned_26 (N : Nat)  (S : shp) (v : vl) (p0 : Nat) (p1 : Int32) (p2 : Int32) : Option (Int32 × vl) :=
  grd (kin S p0 = some (0, 2)) <| (F_tx_takeNumber N p0 (J 0) p1 S v).bind fun (x5, w6) => (if x5 = (J 0) then some (((J 0), w6)) else (if p2 = (J 0) then lt (si w6 p0 12 (gi w6 p0 12)) fun w7 => some (((J 1), w7)) else lt (si w6 p0 12 (-(gi w6 p0 12))) fun w8 => some (((J 1), w8))))
theorem sK_tx_takeSigned_26 (N : Nat)   (S : shp) (v : vl) (p0 : Nat) (p1 : Int32) (p2 : Int32) : SimK B_tx_takeSigned 26 [some (.ref p0), some (.int p1), some (.int p2)] [] S v (K_tx_takeSigned_26 N  S v p0 p1 p2) (ρpi S) := by
  unfold K_tx_takeSigned_26
  refine sim_seg [(.aload_n 0, 0, 0, 0), (.iconst 0, 0, 0, 0), (.iload_n 1, 0, 0, 0)] [] (q := 29) (L' := [some (.ref p0), some (.int p1), some (.int p2)]) (st' := [.int p1, .int (J 0), .ref p0]) (v1 := v) (by decide +kernel) rfl trivial ?_
  refine sim_grd fun h4 => ?_
  refine sc_pi (pc3 := 32) (cf_V (idx := 71) (ci := 2) [.int (J 0), .int p1] m_tx_takeNumber (by decide) ⟨by decide, by decide⟩ (List.mem_of_getElem? (i := 440) (by decide +kernel)) rfl (Nat.le_of_ble_eq_true rfl) h4 (by decide +kernel) (Nat.le_of_ble_eq_true rfl) rfl) (ok_tx_takeNumber N p0 (J 0) p1 S v) rfl (fun x5 w6 => ?_)
  refine sim_ne0 (o := 5) (tg := 37) (f := 35) (by decide +kernel) rfl rfl (fun _ => ?_) (fun _ => ?_)
  · refine sim_seg [(.iconst 0, 0, 0, 0)] [] (q := 36) (L' := [some (.ref p0), some (.int p1), some (.int p2)]) (st' := [.int (J 0)]) (v1 := w6) (by decide +kernel) rfl trivial ?_
    exact sim_iret (by decide +kernel) rfl (by decide) rfl
  · refine sim_seg [(.aload_n 0, 0, 0, 0), (.iload_n 2, 0, 0, 0)] [] (q := 39) (L' := [some (.ref p0), some (.int p1), some (.int p2)]) (st' := [.int p2, .ref p0]) (v1 := w6) (by decide +kernel) rfl trivial ?_
    refine sim_eq0 (o := 11) (tg := 50) (f := 42) (by decide +kernel) rfl rfl (fun _ => ?_) (fun _ => ?_)
    · refine sim_seg [(.aload_n 0, 0, 0, 0), (.getfield 75, 2, 12, 0), (.putfield 75, 2, 12, 0), (.iconst 1, 0, 0, 1)] [] (q := 58) (L' := [some (.ref p0), some (.int p1), some (.int p2)]) (st' := [.int (J 1)]) (v1 := (si w6 p0 12 (gi w6 p0 12))) (by decide +kernel) rfl ⟨h4, h4, trivial⟩ ?_
      refine sim_lt (x := (si w6 p0 12 (gi w6 p0 12))) ?_
      generalize (si w6 p0 12 (gi w6 p0 12)) = w7
      exact sim_iret (by decide +kernel) rfl (by decide) rfl
    · refine sim_seg [(.aload_n 0, 0, 0, 0), (.getfield 75, 2, 12, 0), (.ineg, 0, 0, 0), (.goto 7, 0, 0, 0), (.putfield 75, 2, 12, 0), (.iconst 1, 0, 0, 1)] [] (q := 58) (L' := [some (.ref p0), some (.int p1), some (.int p2)]) (st' := [.int (J 1)]) (v1 := (si w6 p0 12 (-(gi w6 p0 12)))) (by decide +kernel) rfl ⟨h4, h4, trivial⟩ ?_
      refine sim_lt (x := (si w6 p0 12 (-(gi w6 p0 12)))) ?_
      generalize (si w6 p0 12 (-(gi w6 p0 12))) = w8
      exact sim_iret (by decide +kernel) rfl (by decide) rfl
noncomputable def F_tx_takeSigned (N : Nat) (a0 : Nat) (b1 : Int32) (S : shp) (v : vl) : Option (Int32 × vl) :=
  grd (kin S a0 = some (0, 2)) <| (F_tx_advance N a0 S v).bind fun w2 => (if (gi w2 a0 8) = (J 4) then (F_tx_advance N a0 S w2).bind fun w3 => K_tx_takeSigned_26 N  S w3 a0 b1 (J 1) else K_tx_takeSigned_26 N  S w2 a0 b1 (J 0))
theorem ok_tx_takeSigned (N : Nat) (a0 : Nat) (b1 : Int32) (S : shp) (v : vl) : SimK B_tx_takeSigned 0 (entB (bN B_tx_takeSigned) [.ref a0, .int b1]) [] S v (F_tx_takeSigned N a0 b1 S v) (ρpi S) := by
  show SimK B_tx_takeSigned 0 [some (.ref a0), some (.int b1), none] [] S v (F_tx_takeSigned N a0 b1 S v) _
  unfold F_tx_takeSigned
  refine sim_seg [(.aload_n 0, 0, 0, 0)] [] (q := 1) (L' := [some (.ref a0), some (.int b1), none]) (st' := [.ref a0]) (v1 := v) (by decide +kernel) rfl trivial ?_
  refine sim_grd fun h1 => ?_
  refine sc_pv (pc3 := 4) (cf_V (idx := 48) (ci := 2) [] m_tx_advance (by decide) ⟨by decide, by decide⟩ (List.mem_of_getElem? (i := 366) (by decide +kernel)) rfl (Nat.le_of_ble_eq_true rfl) h1 (by decide +kernel) (Nat.le_of_ble_eq_true rfl) rfl) (ok_tx_advance N a0 S v) rfl (fun w2 => ?_)
  refine sim_seg [(.aload_n 0, 0, 0, 0), (.getfield 65, 2, 8, 0), (.iconst 4, 0, 0, 4)] [] (q := 9) (L' := [some (.ref a0), some (.int b1), none]) (st' := [.int (J 4), .int (gi w2 a0 8)]) (v1 := w2) (by decide +kernel) rfl ⟨h1, trivial⟩ ?_
  refine sim_ne (o := 7) (tg := 16) (f := 12) (by decide +kernel) rfl rfl (fun _ => ?_) (fun _ => ?_)
  · refine sim_seg [(.iconst 1, 0, 0, 1), (.goto 4, 0, 0, 0), (.istore_n 2, 0, 0, 0)] [] (q := 18) (L' := [some (.ref a0), some (.int b1), some (.int (J 1))]) (st' := []) (v1 := w2) (by decide +kernel) rfl trivial ?_
    refine sim_seg [(.iload_n 2, 0, 0, 0)] [] (q := 19) (L' := [some (.ref a0), some (.int b1), some (.int (J 1))]) (st' := [.int (J 1)]) (v1 := w2) (by decide +kernel) rfl trivial ?_
    refine sim_ifF (c := (J 1) = (J 0)) (by decide) (sim_eq0 (o := 7) (tg := 26) (f := 22) (by decide +kernel) rfl rfl (fun _ => sim_none) (fun _ => ?_))
    refine sim_seg [(.aload_n 0, 0, 0, 0)] [] (q := 23) (L' := [some (.ref a0), some (.int b1), some (.int (J 1))]) (st' := [.ref a0]) (v1 := w2) (by decide +kernel) rfl trivial ?_
    refine sc_pv (pc3 := 26) (cf_V (idx := 48) (ci := 2) [] m_tx_advance (by decide) ⟨by decide, by decide⟩ (List.mem_of_getElem? (i := 366) (by decide +kernel)) rfl (Nat.le_of_ble_eq_true rfl) h1 (by decide +kernel) (Nat.le_of_ble_eq_true rfl) rfl) (ok_tx_advance N a0 S w2) rfl (fun w3 => ?_)
    exact sK_tx_takeSigned_26 N S w3 a0 b1 (J 1)
  · refine sim_seg [(.iconst 0, 0, 0, 0), (.istore_n 2, 0, 0, 0)] [] (q := 18) (L' := [some (.ref a0), some (.int b1), some (.int (J 0))]) (st' := []) (v1 := w2) (by decide +kernel) rfl trivial ?_
    refine sim_seg [(.iload_n 2, 0, 0, 0)] [] (q := 19) (L' := [some (.ref a0), some (.int b1), some (.int (J 0))]) (st' := [.int (J 0)]) (v1 := w2) (by decide +kernel) rfl trivial ?_
    refine sim_ifT (c := (J 0) = (J 0)) (by decide) (sim_eq0 (o := 7) (tg := 26) (f := 22) (by decide +kernel) rfl rfl (fun _ => ?_) (fun _ => sim_none))
    exact sK_tx_takeSigned_26 N S w2 a0 b1 (J 0)
