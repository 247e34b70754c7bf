/-! Methods: lw_bits, lw_cell, lw_init, lw_nextClock, lw_nextEdge, lw_nextSegment, lw_comes, lw_counts, lw_goes, lw_value, lw_isMade, lw_waits, lw_measuresPeriod, lw_act, lw_isSame, lw_told. -/
def B_lw_bits : bd := (⟨"GateCounterLaw", "bits", "(III)I"⟩, method_2_code, 3, (some .int), [], 6, 0)
theorem m_lw_bits : mS B_lw_bits 3 := ⟨⟨⟨by decide +kernel, Or.inl rfl⟩, rfl, (List.mem_of_getElem? (i := 543) (by decide +kernel)), by decide +kernel, (List.mem_of_getElem? (i := 44) (by decide +kernel)), ⟨by decide, by decide⟩, by decide⟩, rfl, (by unfold nar; decide +kernel), (List.mem_of_getElem? (i := 542) (by decide +kernel))⟩
noncomputable def F_lw_bits (b0 : Int32) (b1 : Int32) (b2 : Int32) (S : shp) (v : vl) : Option Int32 :=
  lt ((Int32.toUInt32 b0 >>> (Int32.toUInt32 b1 &&& Int32.toUInt32 31)).toInt32 &&& (((J 1) <<< (b2 &&& 31)) - (J 1))) fun x1 => some (x1)
theorem ok_lw_bits (b0 : Int32) (b1 : Int32) (b2 : Int32) (S : shp) (v : vl) : SimK B_lw_bits 0 (entB (bN B_lw_bits) [.int b0, .int b1, .int b2]) [] S v (F_lw_bits b0 b1 b2 S v) (ρri S v) := by
  show SimK B_lw_bits 0 [some (.int b0), some (.int b1), some (.int b2)] [] S v (F_lw_bits b0 b1 b2 S v) _
  unfold F_lw_bits
  refine sim_seg [(.iload_n 0, 0, 0, 0), (.iload_n 1, 0, 0, 0), (.iushr, 0, 0, 0), (.iconst 1, 0, 0, 1), (.iload_n 2, 0, 0, 0), (.ishl, 0, 0, 0), (.iconst 1, 0, 0, 1), (.isub, 0, 0, 0), (.iand, 0, 0, 0)] [] (q := 9) (L' := [some (.int b0), some (.int b1), some (.int b2)]) (st' := [.int ((Int32.toUInt32 b0 >>> (Int32.toUInt32 b1 &&& Int32.toUInt32 31)).toInt32 &&& (((J 1) <<< (b2 &&& 31)) - (J 1)))]) (v1 := v) (by decide +kernel) rfl trivial ?_
  refine sim_nm ((Int32.toUInt32 b0 >>> (Int32.toUInt32 b1 &&& Int32.toUInt32 31)).toInt32 &&& (((J 1) <<< (b2 &&& 31)) - (J 1))) (fun x1 => [some (.int b0), some (.int b1), some (.int b2)]) (fun x1 => [.int x1]) (fun x1 => ?_) rfl rfl
  exact sim_iret (by decide +kernel) rfl rfl rfl
def B_lw_cell : bd := (⟨"GateCounterLaw", "cell", "([II)I"⟩, method_1_code, 2, (some .int), [], 6, 0)
theorem m_lw_cell : mS B_lw_cell 2 := ⟨⟨⟨by decide +kernel, Or.inl rfl⟩, rfl, (List.mem_of_getElem? (i := 515) (by decide +kernel)), by decide +kernel, (List.mem_of_getElem? (i := 44) (by decide +kernel)), ⟨by decide, by decide⟩, by decide⟩, rfl, (by unfold nar; decide +kernel), (List.mem_of_getElem? (i := 514) (by decide +kernel))⟩
noncomputable def F_lw_cell (a0 : Nat) (b1 : Int32) (S : shp) (v : vl) : Option Int32 :=
  grd (isArr (kin S a0)) <| (if b1 < (nI (alen S a0)) then grd ((kin S a0 = some (1, alen S a0) ∨ kin S a0 = some (11, alen S a0))) <| grd (vp_in b1 (alen S a0)) <| some ((gi v a0 (Int32.toNatClampNeg b1))) else some ((((J 113) * b1) + (J 67))))
theorem ok_lw_cell (a0 : Nat) (b1 : Int32) (S : shp) (v : vl) : SimK B_lw_cell 0 (entB (bN B_lw_cell) [.ref a0, .int b1]) [] S v (F_lw_cell a0 b1 S v) (ρri S v) := by
  show SimK B_lw_cell 0 [some (.ref a0), some (.int b1)] [] S v (F_lw_cell a0 b1 S v) _
  unfold F_lw_cell
  refine sim_grd fun h1 => ?_
  refine sim_seg [(.iload_n 1, 0, 0, 0), (.aload_n 0, 0, 0, 0), (.arraylength, 0, 0, 0)] [] (q := 3) (L' := [some (.ref a0), some (.int b1)]) (st' := [.int (nI (alen S a0)), .int b1]) (v1 := v) (by decide +kernel) rfl ⟨h1, trivial⟩ ?_
  refine sim_ge (o := 9) (tg := 12) (f := 6) (by decide +kernel) rfl rfl (fun _ => ?_) (fun _ => ?_)
  · refine sim_grd fun h2 => ?_
    refine sim_grd fun h3 => ?_
    refine sim_seg [(.aload_n 0, 0, 0, 0), (.iload_n 1, 0, 0, 0), (.iaload, 0, 0, 0), (.goto 10, 0, 0, 0)] [] (q := 19) (L' := [some (.ref a0), some (.int b1)]) (st' := [.int (gi v a0 (Int32.toNatClampNeg b1))]) (v1 := v) (by decide +kernel) rfl ⟨⟨h2, h3⟩, trivial⟩ ?_
    exact sim_iret (by decide +kernel) rfl rfl rfl
  · refine sim_seg [(.bipush 113, 0, 0, 113), (.iload_n 1, 0, 0, 0), (.imul, 0, 0, 0), (.bipush 67, 0, 0, 67), (.iadd, 0, 0, 0)] [] (q := 19) (L' := [some (.ref a0), some (.int b1)]) (st' := [.int (((J 113) * b1) + (J 67))]) (v1 := v) (by decide +kernel) rfl trivial ?_
    exact sim_iret (by decide +kernel) rfl rfl rfl
def B_lw_init : bd := (⟨"GateCounterLaw", "<init>", "([I)V"⟩, method_4_code, 6, none, [], 6, 6)
theorem m_lw_init : mI B_lw_init 1 := ⟨⟨⟨by decide +kernel, Or.inl rfl⟩, rfl, (List.mem_of_getElem? (i := 537) (by decide +kernel)), by decide +kernel, (List.mem_of_getElem? (i := 44) (by decide +kernel)), ⟨by decide, by decide⟩, by decide⟩, rfl, rfl, (by unfold nar; decide +kernel), (List.mem_of_getElem? (i := 536) (by decide +kernel)), rfl⟩
noncomputable def K_lw_init_298 (N : Nat) (i230 : shp → vl → Nat → Nat → Int32 → Int32 → Option (shp × vl)) (S : shp) (v : vl) (p0 : Nat) (p1 : Nat) (p3 : Int32) (p4 : Int32) (p5 : Int32) (s0 : Nat) (s1 : Int32) (s2 : Int32) : Option (shp × vl) :=
  grd (kin S s0 = some (1, 4)) <| grd (vp_in s1 (alen S s0)) <| lt (si v s0 (Int32.toNatClampNeg s1) s2) fun w140 => grd (kin S p0 = some (0, 6)) <| (gr S p0 24).bind fun r142 => grd (kin S r142 = some (0, 7)) <| (F_sb_append r142 (kad S 23) S w140).bind fun (q145, S146, w147) => oc2 q145 none fun r149 => grd (kin S146 r149 = some (0, 7)) <| (F_sb_append2 N r149 p3 S146 w147).bind fun (q151, S152, w153) => oc2 q151 none fun r155 => grd (kin S152 r155 = some (0, 7)) <| (F_sb_append3 r155 (J 32) S152 w153).bind fun (q157, S158, w159) => oc2 q157 none fun r161 => (gr S158 p0 3).bind fun r162 => grd (kin S158 r162 = some (1, 4)) <| grd (vp_in p4 (alen S158 r162)) <| grd (kin S158 r161 = some (0, 7)) <| (F_sb_append2 N r161 (gi w159 r162 (Int32.toNatClampNeg p4)) S158 w159).bind fun (q167, S168, w169) => oc2 q167 none fun r171 => grd (kin S168 r171 = some (0, 7)) <| (F_sb_append3 r171 (J 59) S168 w169).bind fun (q173, S174, w175) => oc2 q173 none fun r177 => (F_lw_bits p5 (J 9) (J 8) S174 w175).bind fun x178 => i230 S174 w175 p0 p1 (p3 + ((J 1) + x178)) (p4 + (J 1))
theorem sK_lw_init_298 (N : Nat) (i230 : shp → vl → Nat → Nat → Int32 → Int32 → Option (shp × vl)) (j230 : ∀ (S : shp) (v : vl) (p0 : Nat) (p1 : Nat) (p3 : Int32) (p4 : Int32), SimK B_lw_init 230 [some (.ref p0), some (.ref p1), none, some (.int p3), some (.int p4), none] [] S v (i230 S v p0 p1 p3 p4) (ρgv)) (S : shp) (v : vl) (p0 : Nat) (p1 : Nat) (p3 : Int32) (p4 : Int32) (p5 : Int32) (s0 : Nat) (s1 : Int32) (s2 : Int32) : SimK B_lw_init 298 [some (.ref p0), some (.ref p1), none, some (.int p3), some (.int p4), some (.int p5)] [.int s2, .int s1, .ref s0] S v (K_lw_init_298 N i230 S v p0 p1 p3 p4 p5 s0 s1 s2) (ρgv) := by
  unfold K_lw_init_298
  refine sim_grd fun h138 => ?_
  refine sim_grd fun h139 => ?_
  refine sim_seg [(.iastore, 0, 0, 0), (.aload_n 0, 0, 0, 0)] [] (q := 300) (L' := [some (.ref p0), some (.ref p1), none, some (.int p3), some (.int p4), some (.int p5)]) (st' := [.ref p0]) (v1 := (si v s0 (Int32.toNatClampNeg s1) s2)) (by decide +kernel) rfl ⟨⟨(kin_alen h138), h139⟩, trivial⟩ ?_
  refine sim_lt (x := (si v s0 (Int32.toNatClampNeg s1) s2)) ?_
  generalize (si v s0 (Int32.toNatClampNeg s1) s2) = w140
  refine sim_grd fun h141 => ?_
  refine sim_bind fun r142 h143 => ?_
  refine sim_seg [(.getfield 39, 6, 24, 0)] [r142] (q := 303) (L' := [some (.ref p0), some (.ref p1), none, some (.int p3), some (.int p4), some (.int p5)]) (st' := [.ref r142]) (v1 := w140) (by decide +kernel) rfl ⟨⟨h141, h143⟩, trivial⟩ ?_
  refine sim_ldcs (idx := 95) (j := 23) (tx := "signal ") (pc3 := 305) (by decide +kernel) (by decide +kernel) rfl ?_
  refine sim_grd fun h144 => ?_
  refine sc_gq (pc3 := 308) (cf_V (idx := 75) (ci := 7) [.ref (kad S 23)] m_sb_append (by decide) ⟨by decide, by decide⟩ (List.mem_of_getElem? (i := 545) (by decide +kernel)) rfl (Nat.le_of_ble_eq_true rfl) h144 (by decide +kernel) (Nat.le_of_ble_eq_true rfl) rfl) (ok_sb_append r142 (kad S 23) S w140) rfl (fun q145 S146 w147 h148 => ?_)
  refine sim_oc2 (fun _ => sim_none) (fun r149 _ => ?_)
  refine sim_seg [(.iload_n 3, 0, 0, 0)] [] (q := 309) (L' := [some (.ref p0), some (.ref p1), none, some (.int p3), some (.int p4), some (.int p5)]) (st' := [.int p3, .ref r149]) (v1 := w147) (by decide +kernel) rfl trivial ?_
  refine sim_grd fun h150 => ?_
  refine sc_gq (pc3 := 312) (cf_V (idx := 79) (ci := 7) [.int p3] m_sb_append2 (by decide) ⟨by decide, by decide⟩ (List.mem_of_getElem? (i := 644) (by decide +kernel)) rfl (Nat.le_of_ble_eq_true rfl) h150 (by decide +kernel) (Nat.le_of_ble_eq_true rfl) rfl) (ok_sb_append2 N r149 p3 S146 w147) rfl (fun q151 S152 w153 h154 => ?_)
  refine sim_oc2 (fun _ => sim_none) (fun r155 _ => ?_)
  refine sim_seg [(.bipush 32, 0, 0, 32)] [] (q := 314) (L' := [some (.ref p0), some (.ref p1), none, some (.int p3), some (.int p4), some (.int p5)]) (st' := [.int (J 32), .ref r155]) (v1 := w153) (by decide +kernel) rfl trivial ?_
  refine sim_grd fun h156 => ?_
  refine sc_gq (pc3 := 317) (cf_V (idx := 92) (ci := 7) [.int (J 32)] m_sb_append3 (by decide) ⟨by decide, by decide⟩ (List.mem_of_getElem? (i := 674) (by decide +kernel)) rfl (Nat.le_of_ble_eq_true rfl) h156 (by decide +kernel) (Nat.le_of_ble_eq_true rfl) rfl) (ok_sb_append3 r155 (J 32) S152 w153) rfl (fun q157 S158 w159 h160 => ?_)
  refine sim_oc2 (fun _ => sim_none) (fun r161 _ => ?_)
  refine sim_bind fun r162 h163 => ?_
  refine sim_grd fun h164 => ?_
  refine sim_grd fun h165 => ?_
  refine sim_seg [(.aload_n 0, 0, 0, 0), (.getfield 33, 6, 3, 0), (.iload 4, 0, 0, 0), (.iaload, 0, 0, 0)] [r162] (q := 324) (L' := [some (.ref p0), some (.ref p1), none, some (.int p3), some (.int p4), some (.int p5)]) (st' := [.int (gi w159 r162 (Int32.toNatClampNeg p4)), .ref r161]) (v1 := w159) (by decide +kernel) rfl ⟨⟨(h160.2.2.2.2 _ _ (h154.2.2.2.2 _ _ (h148.2.2.2.2 _ _ h141))), h163⟩, ⟨(Or.inl (kin_alen h164)), h165⟩, trivial⟩ ?_
  refine sim_grd fun h166 => ?_
  refine sc_gq (pc3 := 327) (cf_V (idx := 79) (ci := 7) [.int (gi w159 r162 (Int32.toNatClampNeg p4))] m_sb_append2 (by decide) ⟨by decide, by decide⟩ (List.mem_of_getElem? (i := 644) (by decide +kernel)) rfl (Nat.le_of_ble_eq_true rfl) h166 (by decide +kernel) (Nat.le_of_ble_eq_true rfl) rfl) (ok_sb_append2 N r161 (gi w159 r162 (Int32.toNatClampNeg p4)) S158 w159) rfl (fun q167 S168 w169 h170 => ?_)
  refine sim_oc2 (fun _ => sim_none) (fun r171 _ => ?_)
  refine sim_seg [(.bipush 59, 0, 0, 59)] [] (q := 329) (L' := [some (.ref p0), some (.ref p1), none, some (.int p3), some (.int p4), some (.int p5)]) (st' := [.int (J 59), .ref r171]) (v1 := w169) (by decide +kernel) rfl trivial ?_
  refine sim_grd fun h172 => ?_
  refine sc_gq (pc3 := 332) (cf_V (idx := 92) (ci := 7) [.int (J 59)] m_sb_append3 (by decide) ⟨by decide, by decide⟩ (List.mem_of_getElem? (i := 674) (by decide +kernel)) rfl (Nat.le_of_ble_eq_true rfl) h172 (by decide +kernel) (Nat.le_of_ble_eq_true rfl) rfl) (ok_sb_append3 r171 (J 59) S168 w169) rfl (fun q173 S174 w175 h176 => ?_)
  refine sim_oc2 (fun _ => sim_none) (fun r177 _ => ?_)
  refine sim_seg [(.pop, 0, 0, 0), (.iload_n 3, 0, 0, 0), (.iconst 1, 0, 0, 1), (.iload 5, 0, 0, 0), (.bipush 9, 0, 0, 9), (.bipush 8, 0, 0, 8)] [] (q := 341) (L' := [some (.ref p0), some (.ref p1), none, some (.int p3), some (.int p4), some (.int p5)]) (st' := [.int (J 8), .int (J 9), .int p5, .int (J 1), .int p3]) (v1 := w175) (by decide +kernel) rfl trivial ?_
  refine sc_ri (pc3 := 344) (cf_S (idx := 47) [.int p5, .int (J 9), .int (J 8)] m_lw_bits ⟨by decide, by decide⟩ (List.mem_of_getElem? (i := 541) (by decide +kernel)) rfl (Nat.le_of_ble_eq_true rfl) (by decide +kernel) (Nat.le_of_ble_eq_true rfl) rfl) (ok_lw_bits p5 (J 9) (J 8) S174 w175) rfl (fun x178 => ?_)
  refine sim_seg [(.iadd, 0, 0, 0), (.iadd, 0, 0, 0), (.istore_n 3, 0, 0, 0)] [] (q := 347) (L' := [some (.ref p0), some (.ref p1), none, some (.int (p3 + ((J 1) + x178))), some (.int p4), some (.int p5)]) (st' := []) (v1 := w175) (by decide +kernel) rfl trivial ?_
  refine sim_seg [(.iinc 4 1, 0, 0, 1)] [] (q := 350) (L' := [some (.ref p0), some (.ref p1), none, some (.int (p3 + ((J 1) + x178))), some (.int (p4 + (J 1))), some (.int p5)]) (st' := []) (v1 := w175) (by decide +kernel) rfl trivial ?_
  refine sim_seg [(.goto (-120), 0, 0, 0)] [] (q := 230) (L' := [some (.ref p0), some (.ref p1), none, some (.int (p3 + ((J 1) + x178))), some (.int (p4 + (J 1))), some (.int p5)]) (st' := []) (v1 := w175) (by decide +kernel) rfl trivial ?_
  exact sim_wk (L0 := [some (.ref p0), some (.ref p1), none, some (.int (p3 + ((J 1) + x178))), some (.int (p4 + (J 1))), none]) ⟨rfl, rfl, rfl, rfl, trivial⟩ (j230 S174 w175 p0 p1 (p3 + ((J 1) + x178)) (p4 + (J 1)))
noncomputable def Y_lw_init_230 (N : Nat)  (i230 : shp → vl → Nat → Nat → Int32 → Int32 → Option (shp × vl))  (S : shp) (v : vl) (p0 : Nat) (p1 : Nat) (p3 : Int32) (p4 : Int32) : Option (shp × vl) :=
  grd (kin S p0 = some (0, 6)) <| (if p4 < (gi v p0 1) then (F_lw_cell p1 ((J 2) + p4) S v).bind fun x129 => (gr S p0 2).bind fun r130 => grd (kin S r130 = some (1, 4)) <| grd (vp_in p4 (alen S r130)) <| lt (si v r130 (Int32.toNatClampNeg p4) p3) fun w134 => (gr S p0 3).bind fun r135 => (if p4 < ((gi w134 p0 1) - (J 1)) then (F_lw_bits x129 (J 0) (J 3) S w134).bind fun x137 => (if x137 = (J 0) then K_lw_init_298 N i230 S w134 p0 p1 p3 p4 x129 r135 p4 (J 0) else (F_lw_bits x129 (J 3) (J 6) S w134).bind fun x179 => K_lw_init_298 N i230 S w134 p0 p1 p3 p4 x129 r135 p4 ((J 1) + x179)) else (F_lw_bits x129 (J 3) (J 6) S w134).bind fun x180 => K_lw_init_298 N i230 S w134 p0 p1 p3 p4 x129 r135 p4 ((J 1) + x180)) else some ((S, v)))
noncomputable def K_lw_init_230 (N : Nat)  (n : Nat)  : shp → vl → Nat → Nat → Int32 → Int32 → Option (shp × vl) :=
  Nat.rec (motive := fun _ => shp → vl → Nat → Nat → Int32 → Int32 → Option (shp × vl)) (fun _ _ _ _ _ _ => none) (fun _ i => Y_lw_init_230 N  i ) n
theorem sY_lw_init_230 (N : Nat)  (i230 : shp → vl → Nat → Nat → Int32 → Int32 → Option (shp × vl))   (j230 : ∀ (S : shp) (v : vl) (p0 : Nat) (p1 : Nat) (p3 : Int32) (p4 : Int32), SimK B_lw_init 230 [some (.ref p0), some (.ref p1), none, some (.int p3), some (.int p4), none] [] S v (i230 S v p0 p1 p3 p4) (ρgv)) (S : shp) (v : vl) (p0 : Nat) (p1 : Nat) (p3 : Int32) (p4 : Int32) : SimK B_lw_init 230 [some (.ref p0), some (.ref p1), none, some (.int p3), some (.int p4), none] [] S v (Y_lw_init_230 N  i230  S v p0 p1 p3 p4) (ρgv) := by
  unfold Y_lw_init_230
  refine sim_grd fun h128 => ?_
  refine sim_seg [(.iload 4, 0, 0, 0), (.aload_n 0, 0, 0, 0), (.getfield 70, 6, 1, 0)] [] (q := 236) (L' := [some (.ref p0), some (.ref p1), none, some (.int p3), some (.int p4), none]) (st' := [.int (gi v p0 1), .int p4]) (v1 := v) (by decide +kernel) rfl ⟨h128, trivial⟩ ?_
  refine sim_ge (o := 117) (tg := 353) (f := 239) (by decide +kernel) rfl rfl (fun _ => ?_) (fun _ => ?_)
  · refine sim_seg [(.aload_n 1, 0, 0, 0), (.iconst 2, 0, 0, 2), (.iload 4, 0, 0, 0), (.iadd, 0, 0, 0)] [] (q := 244) (L' := [some (.ref p0), some (.ref p1), none, some (.int p3), some (.int p4), none]) (st' := [.int ((J 2) + p4), .ref p1]) (v1 := v) (by decide +kernel) rfl trivial ?_
    refine sc_ri (pc3 := 247) (cf_S (idx := 43) [.ref p1, .int ((J 2) + p4)] m_lw_cell ⟨by decide, by decide⟩ (List.mem_of_getElem? (i := 513) (by decide +kernel)) rfl (Nat.le_of_ble_eq_true rfl) (by decide +kernel) (Nat.le_of_ble_eq_true rfl) rfl) (ok_lw_cell p1 ((J 2) + p4) S v) rfl (fun x129 => ?_)
    refine sim_seg [(.istore 5, 0, 0, 0)] [] (q := 249) (L' := [some (.ref p0), some (.ref p1), none, some (.int p3), some (.int p4), some (.int x129)]) (st' := []) (v1 := v) (by decide +kernel) rfl trivial ?_
    refine sim_bind fun r130 h131 => ?_
    refine sim_grd fun h132 => ?_
    refine sim_grd fun h133 => ?_
    refine sim_seg [(.aload_n 0, 0, 0, 0), (.getfield 27, 6, 2, 0), (.iload 4, 0, 0, 0), (.iload_n 3, 0, 0, 0), (.iastore, 0, 0, 0), (.aload_n 0, 0, 0, 0)] [r130] (q := 258) (L' := [some (.ref p0), some (.ref p1), none, some (.int p3), some (.int p4), some (.int x129)]) (st' := [.ref p0]) (v1 := (si v r130 (Int32.toNatClampNeg p4) p3)) (by decide +kernel) rfl ⟨⟨h128, h131⟩, ⟨(kin_alen h132), h133⟩, trivial⟩ ?_
    refine sim_lt (x := (si v r130 (Int32.toNatClampNeg p4) p3)) ?_
    generalize (si v r130 (Int32.toNatClampNeg p4) p3) = w134
    refine sim_bind fun r135 h136 => ?_
    refine sim_seg [(.getfield 33, 6, 3, 0), (.iload 4, 0, 0, 0), (.iload 4, 0, 0, 0), (.aload_n 0, 0, 0, 0), (.getfield 70, 6, 1, 0), (.iconst 1, 0, 0, 1), (.isub, 0, 0, 0)] [r135] (q := 271) (L' := [some (.ref p0), some (.ref p1), none, some (.int p3), some (.int p4), some (.int x129)]) (st' := [.int ((gi w134 p0 1) - (J 1)), .int p4, .int p4, .ref r135]) (v1 := w134) (by decide +kernel) rfl ⟨⟨h128, h136⟩, h128, trivial⟩ ?_
    refine sim_ge (o := 17) (tg := 288) (f := 274) (by decide +kernel) rfl rfl (fun _ => ?_) (fun _ => ?_)
    · refine sim_seg [(.iload 5, 0, 0, 0), (.iconst 0, 0, 0, 0), (.iconst 3, 0, 0, 3)] [] (q := 278) (L' := [some (.ref p0), some (.ref p1), none, some (.int p3), some (.int p4), some (.int x129)]) (st' := [.int (J 3), .int (J 0), .int x129, .int p4, .ref r135]) (v1 := w134) (by decide +kernel) rfl trivial ?_
      refine sc_ri (pc3 := 281) (cf_S (idx := 47) [.int x129, .int (J 0), .int (J 3)] m_lw_bits ⟨by decide, by decide⟩ (List.mem_of_getElem? (i := 541) (by decide +kernel)) rfl (Nat.le_of_ble_eq_true rfl) (by decide +kernel) (Nat.le_of_ble_eq_true rfl) rfl) (ok_lw_bits x129 (J 0) (J 3) S w134) rfl (fun x137 => ?_)
      refine sim_ne0 (o := 7) (tg := 288) (f := 284) (by decide +kernel) rfl rfl (fun _ => ?_) (fun _ => ?_)
      · refine sim_seg [(.iconst 0, 0, 0, 0), (.goto 13, 0, 0, 0)] [] (q := 298) (L' := [some (.ref p0), some (.ref p1), none, some (.int p3), some (.int p4), some (.int x129)]) (st' := [.int (J 0), .int p4, .ref r135]) (v1 := w134) (by decide +kernel) rfl trivial ?_
        exact sK_lw_init_298 N i230 j230 S w134 p0 p1 p3 p4 x129 r135 p4 (J 0)
      · refine sim_seg [(.iconst 1, 0, 0, 1), (.iload 5, 0, 0, 0), (.iconst 3, 0, 0, 3), (.bipush 6, 0, 0, 6)] [] (q := 294) (L' := [some (.ref p0), some (.ref p1), none, some (.int p3), some (.int p4), some (.int x129)]) (st' := [.int (J 6), .int (J 3), .int x129, .int (J 1), .int p4, .ref r135]) (v1 := w134) (by decide +kernel) rfl trivial ?_
        refine sc_ri (pc3 := 297) (cf_S (idx := 47) [.int x129, .int (J 3), .int (J 6)] m_lw_bits ⟨by decide, by decide⟩ (List.mem_of_getElem? (i := 541) (by decide +kernel)) rfl (Nat.le_of_ble_eq_true rfl) (by decide +kernel) (Nat.le_of_ble_eq_true rfl) rfl) (ok_lw_bits x129 (J 3) (J 6) S w134) rfl (fun x179 => ?_)
        refine sim_seg [(.iadd, 0, 0, 0)] [] (q := 298) (L' := [some (.ref p0), some (.ref p1), none, some (.int p3), some (.int p4), some (.int x129)]) (st' := [.int ((J 1) + x179), .int p4, .ref r135]) (v1 := w134) (by decide +kernel) rfl trivial ?_
        exact sK_lw_init_298 N i230 j230 S w134 p0 p1 p3 p4 x129 r135 p4 ((J 1) + x179)
    · refine sim_seg [(.iconst 1, 0, 0, 1), (.iload 5, 0, 0, 0), (.iconst 3, 0, 0, 3), (.bipush 6, 0, 0, 6)] [] (q := 294) (L' := [some (.ref p0), some (.ref p1), none, some (.int p3), some (.int p4), some (.int x129)]) (st' := [.int (J 6), .int (J 3), .int x129, .int (J 1), .int p4, .ref r135]) (v1 := w134) (by decide +kernel) rfl trivial ?_
      refine sc_ri (pc3 := 297) (cf_S (idx := 47) [.int x129, .int (J 3), .int (J 6)] m_lw_bits ⟨by decide, by decide⟩ (List.mem_of_getElem? (i := 541) (by decide +kernel)) rfl (Nat.le_of_ble_eq_true rfl) (by decide +kernel) (Nat.le_of_ble_eq_true rfl) rfl) (ok_lw_bits x129 (J 3) (J 6) S w134) rfl (fun x180 => ?_)
      refine sim_seg [(.iadd, 0, 0, 0)] [] (q := 298) (L' := [some (.ref p0), some (.ref p1), none, some (.int p3), some (.int p4), some (.int x129)]) (st' := [.int ((J 1) + x180), .int p4, .ref r135]) (v1 := w134) (by decide +kernel) rfl trivial ?_
      exact sK_lw_init_298 N i230 j230 S w134 p0 p1 p3 p4 x129 r135 p4 ((J 1) + x180)
  · exact sim_vret (by decide +kernel) rfl rfl
theorem sR_lw_init_230 (N : Nat)    (n : Nat) : ∀ (S : shp) (v : vl) (p0 : Nat) (p1 : Nat) (p3 : Int32) (p4 : Int32), SimK B_lw_init 230 [some (.ref p0), some (.ref p1), none, some (.int p3), some (.int p4), none] [] S v (K_lw_init_230 N  n  S v p0 p1 p3 p4) (ρgv) := by
  induction n with
  | zero => intro S v p0 p1 p3 p4; exact sim_none
  | succ k ih => intro S v p0 p1 p3 p4; exact sY_lw_init_230 N   _   ih S v p0 p1 p3 p4
theorem sK_lw_init_230 (N : Nat)   (n : Nat) (S : shp) (v : vl) (p0 : Nat) (p1 : Nat) (p3 : Int32) (p4 : Int32) : SimK B_lw_init 230 [some (.ref p0), some (.ref p1), none, some (.int p3), some (.int p4), none] [] S v (K_lw_init_230 N  n  S v p0 p1 p3 p4) (ρgv) := sR_lw_init_230 N    n  S v p0 p1 p3 p4
noncomputable def F_lw_init (N : Nat) (a0 : Nat) (a1 : Nat) (S : shp) (v : vl) : Option (shp × vl) :=
  grd (kin S (nxt S) = none) <| lt3 (grow S (1, 4) 4) (nxt S) (zero v (nxt S)) fun S2 r3 v4 => grd (kin S2 a0 = some (0, 6)) <| lt (sr S2 a0 2 (some r3)) fun S8 => grd (kin S8 (nxt S8) = none) <| lt3 (grow S8 (1, 4) 4) (nxt S8) (zero v4 (nxt S8)) fun S11 r12 v13 => grd (kin S11 a0 = some (0, 6)) <| lt (sr S11 a0 3 (some r12)) fun S17 => grd (kin S17 (nxt S17) = none) <| lt3 (grow S17 (0, 7) (fTN 7).2.1) (nxt S17) (zero v13 (nxt S17)) fun S20 r21 v22 => (F_sb_init r21 S20 v22).bind fun (S25, w26) => grd (kin S25 a0 = some (0, 6)) <| lt (sr S25 a0 24 (some r21)) fun S29 => (F_lw_cell a1 (J 0) S29 w26).bind fun x31 => (F_lw_bits x31 (J 0) (J 5) S29 w26).bind fun x32 => lt (si w26 a0 0 ((J 10) + x32)) fun w33 => (F_lw_bits x31 (J 5) (J 7) S29 w33).bind fun x34 => lt (si w33 a0 13 ((x34 - x34 / (J 100) * (J 100)) - (J 50))) fun w35 => (F_lw_bits x31 (J 12) (J 2) S29 w35).bind fun x36 => lt (si w35 a0 14 ((x36 - x36 / (J 3) * (J 3)) - (J 1))) fun w37 => (F_lw_bits x31 (J 14) (J 3) S29 w37).bind fun x38 => lt (si w37 a0 9 ((J 1) <<< ((x38 - x38 / (J 5) * (J 5)) &&& 31))) fun w39 => (F_lw_bits x31 (J 17) (J 4) S29 w39).bind fun x40 => lt (si w39 a0 10 ((J 1) + x40)) fun w41 => (F_lw_bits x31 (J 21) (J 3) S29 w41).bind fun x42 => lt (si w41 a0 11 ((J 1) + x42)) fun w43 => (F_lw_bits x31 (J 24) (J 2) S29 w43).bind fun x44 => lt (si w43 a0 1 ((J 1) + x44)) fun w45 => (gr S29 a0 24).bind fun r46 => grd (kin S29 r46 = some (0, 7)) <| (F_sb_append r46 (kad S29 17) S29 w45).bind fun (q49, S50, w51) => oc2 q49 none fun r53 => grd (kin S50 r53 = some (0, 7)) <| (F_sb_append2 N r53 (gi w51 a0 0) S50 w51).bind fun (q55, S56, w57) => oc2 q55 none fun r59 => grd (kin S56 r59 = some (0, 7)) <| (F_sb_append r59 (kad S56 18) S56 w57).bind fun (q61, S62, w63) => oc2 q61 none fun r65 => grd (kin S62 r65 = some (0, 7)) <| (F_sb_append2 N r65 (gi w63 a0 13) S62 w63).bind fun (q67, S68, w69) => oc2 q67 none fun r71 => grd (kin S68 r71 = some (0, 7)) <| (F_sb_append r71 (kad S68 19) S68 w69).bind fun (q73, S74, w75) => oc2 q73 none fun r77 => grd (kin S74 r77 = some (0, 7)) <| (F_sb_append2 N r77 (gi w75 a0 14) S74 w75).bind fun (q79, S80, w81) => oc2 q79 none fun r83 => grd (kin S80 r83 = some (0, 7)) <| (F_sb_append r83 (kad S80 20) S80 w81).bind fun (q85, S86, w87) => oc2 q85 none fun r89 => grd (kin S86 r89 = some (0, 7)) <| (F_sb_append2 N r89 (gi w87 a0 9) S86 w87).bind fun (q91, S92, w93) => oc2 q91 none fun r95 => grd (kin S92 r95 = some (0, 7)) <| (F_sb_append r95 (kad S92 21) S92 w93).bind fun (q97, S98, w99) => oc2 q97 none fun r101 => grd (kin S98 r101 = some (0, 7)) <| (F_sb_append2 N r101 (gi w99 a0 10) S98 w99).bind fun (q103, S104, w105) => oc2 q103 none fun r107 => grd (kin S104 r107 = some (0, 7)) <| (F_sb_append r107 (kad S104 22) S104 w105).bind fun (q109, S110, w111) => oc2 q109 none fun r113 => grd (kin S110 r113 = some (0, 7)) <| (F_sb_append2 N r113 (gi w111 a0 11) S110 w111).bind fun (q115, S116, w117) => oc2 q115 none fun r119 => grd (kin S116 r119 = some (0, 7)) <| (F_sb_append3 r119 (J 59) S116 w117).bind fun (q121, S122, w123) => oc2 q121 none fun r125 => (F_lw_cell a1 (J 1) S122 w123).bind fun x126 => (F_lw_bits x126 (J 0) (J 5) S122 w123).bind fun x127 => K_lw_init_230 N  N S122 w123 a0 a1 x127 (J 0)
theorem ok_lw_init (N : Nat) (a0 : Nat) (a1 : Nat) (S : shp) (v : vl) : SimK B_lw_init 0 (entB (bN B_lw_init) [.ref a0, .ref a1]) [] S v (F_lw_init N a0 a1 S v) (ρgv) := by
  show SimK B_lw_init 0 [some (.ref a0), some (.ref a1), none, none, none, none] [] S v (F_lw_init N a0 a1 S v) _
  unfold F_lw_init
  refine sim_seg [(.aload_n 0, 0, 0, 0)] [] (q := 1) (L' := [some (.ref a0), some (.ref a1), none, none, none, none]) (st' := [.ref a0]) (v1 := v) (by decide +kernel) rfl trivial ?_
  refine sim_oinit (idx := 21) (pc3 := 4) (by decide +kernel) (List.mem_of_getElem? (i := 538) (by decide +kernel)) (by decide) (Nat.le_of_ble_eq_true rfl) rfl ?_
  refine sim_seg [(.aload_n 0, 0, 0, 0), (.iconst 4, 0, 0, 4)] [] (q := 6) (L' := [some (.ref a0), some (.ref a1), none, none, none, none]) (st' := [.int (J 4), .ref a0]) (v1 := v) (by decide +kernel) rfl trivial ?_
  refine sim_grd fun h1 => ?_
  refine sim_newa (ty := 0) (N := 4) (pc3 := 8) (by decide) (by decide +kernel) rfl (by decide) (by decide) (by decide) h1 (fun S2 r3 v4 h5 h6 => ?_)
  refine sim_grd fun h7 => ?_
  refine sim_putr (idx := 27) (ci := 6) (m := 2) (pc3 := 11) (by decide +kernel) (by decide) (Or.inr ⟨rfl, rfl⟩) h7 rfl rfl (fun S8 h9 => ?_)
  refine sim_seg [(.aload_n 0, 0, 0, 0), (.iconst 4, 0, 0, 4)] [] (q := 13) (L' := [some (.ref a0), some (.ref a1), none, none, none, none]) (st' := [.int (J 4), .ref a0]) (v1 := v4) (by decide +kernel) rfl trivial ?_
  refine sim_grd fun h10 => ?_
  refine sim_newa (ty := 0) (N := 4) (pc3 := 15) (by decide) (by decide +kernel) rfl (by decide) (by decide) (by decide) h10 (fun S11 r12 v13 h14 h15 => ?_)
  refine sim_grd fun h16 => ?_
  refine sim_putr (idx := 33) (ci := 6) (m := 3) (pc3 := 18) (by decide +kernel) (by decide) (Or.inr ⟨rfl, rfl⟩) h16 rfl rfl (fun S17 h18 => ?_)
  refine sim_seg [(.aload_n 0, 0, 0, 0)] [] (q := 19) (L' := [some (.ref a0), some (.ref a1), none, none, none, none]) (st' := [.ref a0]) (v1 := v13) (by decide +kernel) rfl trivial ?_
  refine sim_grd fun h19 => ?_
  refine sim_new (idx := 36) (ci := 7) (pc3 := 22) (by decide) (by decide +kernel) (List.mem_of_getElem? (i := 539) (by decide +kernel)) (List.mem_of_getElem? (i := 285) (by decide +kernel)) (List.mem_of_getElem? (i := 46) (by decide +kernel)) rfl h19 (fun S20 r21 v22 h23 h24 => ?_)
  refine sim_seg [(.dup, 0, 0, 0)] [] (q := 23) (L' := [some (.ref a0), some (.ref a1), none, none, none, none]) (st' := [.ref r21, .ref r21, .ref a0]) (v1 := v22) (by decide +kernel) rfl trivial ?_
  refine sc_gv (pc3 := 26) (cf_I (idx := 38) [] m_sb_init ⟨by decide, by decide⟩ (List.mem_of_getElem? (i := 540) (by decide +kernel)) rfl (Nat.le_of_ble_eq_true rfl) (by decide +kernel) (Nat.le_of_ble_eq_true rfl) rfl) (ok_sb_init r21 S20 v22) rfl (fun S25 w26 h27 => ?_)
  refine sim_grd fun h28 => ?_
  refine sim_putr (idx := 39) (ci := 6) (m := 24) (pc3 := 29) (by decide +kernel) (by decide) (Or.inr ⟨rfl, rfl⟩) h28 rfl rfl (fun S29 h30 => ?_)
  refine sim_seg [(.aload_n 1, 0, 0, 0), (.iconst 0, 0, 0, 0)] [] (q := 31) (L' := [some (.ref a0), some (.ref a1), none, none, none, none]) (st' := [.int (J 0), .ref a1]) (v1 := w26) (by decide +kernel) rfl trivial ?_
  refine sc_ri (pc3 := 34) (cf_S (idx := 43) [.ref a1, .int (J 0)] m_lw_cell ⟨by decide, by decide⟩ (List.mem_of_getElem? (i := 513) (by decide +kernel)) rfl (Nat.le_of_ble_eq_true rfl) (by decide +kernel) (Nat.le_of_ble_eq_true rfl) rfl) (ok_lw_cell a1 (J 0) S29 w26) rfl (fun x31 => ?_)
  refine sim_seg [(.istore_n 2, 0, 0, 0)] [] (q := 35) (L' := [some (.ref a0), some (.ref a1), some (.int x31), none, none, none]) (st' := []) (v1 := w26) (by decide +kernel) rfl trivial ?_
  refine sim_seg [(.aload_n 0, 0, 0, 0), (.bipush 10, 0, 0, 10), (.iload_n 2, 0, 0, 0), (.iconst 0, 0, 0, 0), (.iconst 5, 0, 0, 5)] [] (q := 41) (L' := [some (.ref a0), some (.ref a1), some (.int x31), none, none, none]) (st' := [.int (J 5), .int (J 0), .int x31, .int (J 10), .ref a0]) (v1 := w26) (by decide +kernel) rfl trivial ?_
  refine sc_ri (pc3 := 44) (cf_S (idx := 47) [.int x31, .int (J 0), .int (J 5)] m_lw_bits ⟨by decide, by decide⟩ (List.mem_of_getElem? (i := 541) (by decide +kernel)) rfl (Nat.le_of_ble_eq_true rfl) (by decide +kernel) (Nat.le_of_ble_eq_true rfl) rfl) (ok_lw_bits x31 (J 0) (J 5) S29 w26) rfl (fun x32 => ?_)
  refine sim_seg [(.iadd, 0, 0, 0)] [] (q := 45) (L' := [some (.ref a0), some (.ref a1), some (.int x31), none, none, none]) (st' := [.int ((J 10) + x32), .ref a0]) (v1 := w26) (by decide +kernel) rfl trivial ?_
  refine sim_puti (idx := 51) (ci := 6) (m := 0) (pc3 := 48) (by decide +kernel) (by decide) (Or.inr ⟨rfl, rfl⟩) (h30.2.2.2.2 _ _ h28) rfl rfl ⟨rfl, rfl⟩ rfl (fun w33 => ?_)
  refine sim_seg [(.aload_n 0, 0, 0, 0), (.iload_n 2, 0, 0, 0), (.iconst 5, 0, 0, 5), (.bipush 7, 0, 0, 7)] [] (q := 53) (L' := [some (.ref a0), some (.ref a1), some (.int x31), none, none, none]) (st' := [.int (J 7), .int (J 5), .int x31, .ref a0]) (v1 := w33) (by decide +kernel) rfl trivial ?_
  refine sc_ri (pc3 := 56) (cf_S (idx := 47) [.int x31, .int (J 5), .int (J 7)] m_lw_bits ⟨by decide, by decide⟩ (List.mem_of_getElem? (i := 541) (by decide +kernel)) rfl (Nat.le_of_ble_eq_true rfl) (by decide +kernel) (Nat.le_of_ble_eq_true rfl) rfl) (ok_lw_bits x31 (J 5) (J 7) S29 w33) rfl (fun x34 => ?_)
  refine sim_seg [(.bipush 100, 0, 0, 100), (.irem, 0, 0, 0), (.bipush 50, 0, 0, 50), (.isub, 0, 0, 0), (.putfield 55, 6, 13, 0), (.aload_n 0, 0, 0, 0), (.iload_n 2, 0, 0, 0), (.bipush 12, 0, 0, 12), (.iconst 2, 0, 0, 2)] [] (q := 70) (L' := [some (.ref a0), some (.ref a1), some (.int x31), none, none, none]) (st' := [.int (J 2), .int (J 12), .int x31, .ref a0]) (v1 := (si w33 a0 13 ((x34 - x34 / (J 100) * (J 100)) - (J 50)))) (by decide +kernel) rfl ⟨(by decide), (h30.2.2.2.2 _ _ h28), trivial⟩ ?_
  refine sim_lt (x := (si w33 a0 13 ((x34 - x34 / (J 100) * (J 100)) - (J 50)))) ?_
  generalize (si w33 a0 13 ((x34 - x34 / (J 100) * (J 100)) - (J 50))) = w35
  refine sc_ri (pc3 := 73) (cf_S (idx := 47) [.int x31, .int (J 12), .int (J 2)] m_lw_bits ⟨by decide, by decide⟩ (List.mem_of_getElem? (i := 541) (by decide +kernel)) rfl (Nat.le_of_ble_eq_true rfl) (by decide +kernel) (Nat.le_of_ble_eq_true rfl) rfl) (ok_lw_bits x31 (J 12) (J 2) S29 w35) rfl (fun x36 => ?_)
  refine sim_seg [(.iconst 3, 0, 0, 3), (.irem, 0, 0, 0), (.iconst 1, 0, 0, 1), (.isub, 0, 0, 0), (.putfield 58, 6, 14, 0), (.aload_n 0, 0, 0, 0), (.iconst 1, 0, 0, 1), (.iload_n 2, 0, 0, 0), (.bipush 14, 0, 0, 14), (.iconst 3, 0, 0, 3)] [] (q := 86) (L' := [some (.ref a0), some (.ref a1), some (.int x31), none, none, none]) (st' := [.int (J 3), .int (J 14), .int x31, .int (J 1), .ref a0]) (v1 := (si w35 a0 14 ((x36 - x36 / (J 3) * (J 3)) - (J 1)))) (by decide +kernel) rfl ⟨(by decide), (h30.2.2.2.2 _ _ h28), trivial⟩ ?_
  refine sim_lt (x := (si w35 a0 14 ((x36 - x36 / (J 3) * (J 3)) - (J 1)))) ?_
  generalize (si w35 a0 14 ((x36 - x36 / (J 3) * (J 3)) - (J 1))) = w37
  refine sc_ri (pc3 := 89) (cf_S (idx := 47) [.int x31, .int (J 14), .int (J 3)] m_lw_bits ⟨by decide, by decide⟩ (List.mem_of_getElem? (i := 541) (by decide +kernel)) rfl (Nat.le_of_ble_eq_true rfl) (by decide +kernel) (Nat.le_of_ble_eq_true rfl) rfl) (ok_lw_bits x31 (J 14) (J 3) S29 w37) rfl (fun x38 => ?_)
  refine sim_seg [(.iconst 5, 0, 0, 5), (.irem, 0, 0, 0), (.ishl, 0, 0, 0), (.putfield 61, 6, 9, 0), (.aload_n 0, 0, 0, 0), (.iconst 1, 0, 0, 1), (.iload_n 2, 0, 0, 0), (.bipush 17, 0, 0, 17), (.iconst 4, 0, 0, 4)] [] (q := 101) (L' := [some (.ref a0), some (.ref a1), some (.int x31), none, none, none]) (st' := [.int (J 4), .int (J 17), .int x31, .int (J 1), .ref a0]) (v1 := (si w37 a0 9 ((J 1) <<< ((x38 - x38 / (J 5) * (J 5)) &&& 31)))) (by decide +kernel) rfl ⟨(by decide), (h30.2.2.2.2 _ _ h28), trivial⟩ ?_
  refine sim_lt (x := (si w37 a0 9 ((J 1) <<< ((x38 - x38 / (J 5) * (J 5)) &&& 31)))) ?_
  generalize (si w37 a0 9 ((J 1) <<< ((x38 - x38 / (J 5) * (J 5)) &&& 31))) = w39
  refine sc_ri (pc3 := 104) (cf_S (idx := 47) [.int x31, .int (J 17), .int (J 4)] m_lw_bits ⟨by decide, by decide⟩ (List.mem_of_getElem? (i := 541) (by decide +kernel)) rfl (Nat.le_of_ble_eq_true rfl) (by decide +kernel) (Nat.le_of_ble_eq_true rfl) rfl) (ok_lw_bits x31 (J 17) (J 4) S29 w39) rfl (fun x40 => ?_)
  refine sim_seg [(.iadd, 0, 0, 0), (.putfield 64, 6, 10, 0), (.aload_n 0, 0, 0, 0), (.iconst 1, 0, 0, 1), (.iload_n 2, 0, 0, 0), (.bipush 21, 0, 0, 21), (.iconst 3, 0, 0, 3)] [] (q := 114) (L' := [some (.ref a0), some (.ref a1), some (.int x31), none, none, none]) (st' := [.int (J 3), .int (J 21), .int x31, .int (J 1), .ref a0]) (v1 := (si w39 a0 10 ((J 1) + x40))) (by decide +kernel) rfl ⟨(h30.2.2.2.2 _ _ h28), trivial⟩ ?_
  refine sim_lt (x := (si w39 a0 10 ((J 1) + x40))) ?_
  generalize (si w39 a0 10 ((J 1) + x40)) = w41
  refine sc_ri (pc3 := 117) (cf_S (idx := 47) [.int x31, .int (J 21), .int (J 3)] m_lw_bits ⟨by decide, by decide⟩ (List.mem_of_getElem? (i := 541) (by decide +kernel)) rfl (Nat.le_of_ble_eq_true rfl) (by decide +kernel) (Nat.le_of_ble_eq_true rfl) rfl) (ok_lw_bits x31 (J 21) (J 3) S29 w41) rfl (fun x42 => ?_)
  refine sim_seg [(.iadd, 0, 0, 0), (.putfield 67, 6, 11, 0), (.aload_n 0, 0, 0, 0), (.iconst 1, 0, 0, 1), (.iload_n 2, 0, 0, 0), (.bipush 24, 0, 0, 24), (.iconst 2, 0, 0, 2)] [] (q := 127) (L' := [some (.ref a0), some (.ref a1), some (.int x31), none, none, none]) (st' := [.int (J 2), .int (J 24), .int x31, .int (J 1), .ref a0]) (v1 := (si w41 a0 11 ((J 1) + x42))) (by decide +kernel) rfl ⟨(h30.2.2.2.2 _ _ h28), trivial⟩ ?_
  refine sim_lt (x := (si w41 a0 11 ((J 1) + x42))) ?_
  generalize (si w41 a0 11 ((J 1) + x42)) = w43
  refine sc_ri (pc3 := 130) (cf_S (idx := 47) [.int x31, .int (J 24), .int (J 2)] m_lw_bits ⟨by decide, by decide⟩ (List.mem_of_getElem? (i := 541) (by decide +kernel)) rfl (Nat.le_of_ble_eq_true rfl) (by decide +kernel) (Nat.le_of_ble_eq_true rfl) rfl) (ok_lw_bits x31 (J 24) (J 2) S29 w43) rfl (fun x44 => ?_)
  refine sim_seg [(.iadd, 0, 0, 0)] [] (q := 131) (L' := [some (.ref a0), some (.ref a1), some (.int x31), none, none, none]) (st' := [.int ((J 1) + x44), .ref a0]) (v1 := w43) (by decide +kernel) rfl trivial ?_
  refine sim_puti (idx := 70) (ci := 6) (m := 1) (pc3 := 134) (by decide +kernel) (by decide) (Or.inr ⟨rfl, rfl⟩) (h30.2.2.2.2 _ _ h28) rfl rfl ⟨rfl, rfl⟩ rfl (fun w45 => ?_)
  refine sim_bind fun r46 h47 => ?_
  refine sim_seg [(.aload_n 0, 0, 0, 0), (.getfield 39, 6, 24, 0)] [r46] (q := 138) (L' := [some (.ref a0), some (.ref a1), some (.int x31), none, none, none]) (st' := [.ref r46]) (v1 := w45) (by decide +kernel) rfl ⟨⟨(h30.2.2.2.2 _ _ h28), h47⟩, trivial⟩ ?_
  refine sim_ldcs (idx := 73) (j := 17) (tx := "clock ") (pc3 := 140) (by decide +kernel) (by decide +kernel) rfl ?_
  refine sim_grd fun h48 => ?_
  refine sc_gq (pc3 := 143) (cf_V (idx := 75) (ci := 7) [.ref (kad S29 17)] m_sb_append (by decide) ⟨by decide, by decide⟩ (List.mem_of_getElem? (i := 545) (by decide +kernel)) rfl (Nat.le_of_ble_eq_true rfl) h48 (by decide +kernel) (Nat.le_of_ble_eq_true rfl) rfl) (ok_sb_append r46 (kad S29 17) S29 w45) rfl (fun q49 S50 w51 h52 => ?_)
  refine sim_oc2 (fun _ => sim_none) (fun r53 _ => ?_)
  refine sim_seg [(.aload_n 0, 0, 0, 0), (.getfield 51, 6, 0, 0)] [] (q := 147) (L' := [some (.ref a0), some (.ref a1), some (.int x31), none, none, none]) (st' := [.int (gi w51 a0 0), .ref r53]) (v1 := w51) (by decide +kernel) rfl ⟨(h52.2.2.2.2 _ _ (h30.2.2.2.2 _ _ h28)), trivial⟩ ?_
  refine sim_grd fun h54 => ?_
  refine sc_gq (pc3 := 150) (cf_V (idx := 79) (ci := 7) [.int (gi w51 a0 0)] m_sb_append2 (by decide) ⟨by decide, by decide⟩ (List.mem_of_getElem? (i := 644) (by decide +kernel)) rfl (Nat.le_of_ble_eq_true rfl) h54 (by decide +kernel) (Nat.le_of_ble_eq_true rfl) rfl) (ok_sb_append2 N r53 (gi w51 a0 0) S50 w51) rfl (fun q55 S56 w57 h58 => ?_)
  refine sim_oc2 (fun _ => sim_none) (fun r59 _ => ?_)
  refine sim_ldcs (idx := 82) (j := 18) (tx := " drift ") (pc3 := 152) (by decide +kernel) (by decide +kernel) rfl ?_
  refine sim_grd fun h60 => ?_
  refine sc_gq (pc3 := 155) (cf_V (idx := 75) (ci := 7) [.ref (kad S56 18)] m_sb_append (by decide) ⟨by decide, by decide⟩ (List.mem_of_getElem? (i := 545) (by decide +kernel)) rfl (Nat.le_of_ble_eq_true rfl) h60 (by decide +kernel) (Nat.le_of_ble_eq_true rfl) rfl) (ok_sb_append r59 (kad S56 18) S56 w57) rfl (fun q61 S62 w63 h64 => ?_)
  refine sim_oc2 (fun _ => sim_none) (fun r65 _ => ?_)
  refine sim_seg [(.aload_n 0, 0, 0, 0), (.getfield 55, 6, 13, 0)] [] (q := 159) (L' := [some (.ref a0), some (.ref a1), some (.int x31), none, none, none]) (st' := [.int (gi w63 a0 13), .ref r65]) (v1 := w63) (by decide +kernel) rfl ⟨(h64.2.2.2.2 _ _ (h58.2.2.2.2 _ _ (h52.2.2.2.2 _ _ (h30.2.2.2.2 _ _ h28)))), trivial⟩ ?_
  refine sim_grd fun h66 => ?_
  refine sc_gq (pc3 := 162) (cf_V (idx := 79) (ci := 7) [.int (gi w63 a0 13)] m_sb_append2 (by decide) ⟨by decide, by decide⟩ (List.mem_of_getElem? (i := 644) (by decide +kernel)) rfl (Nat.le_of_ble_eq_true rfl) h66 (by decide +kernel) (Nat.le_of_ble_eq_true rfl) rfl) (ok_sb_append2 N r65 (gi w63 a0 13) S62 w63) rfl (fun q67 S68 w69 h70 => ?_)
  refine sim_oc2 (fun _ => sim_none) (fun r71 _ => ?_)
  refine sim_ldcs (idx := 84) (j := 19) (tx := " age ") (pc3 := 164) (by decide +kernel) (by decide +kernel) rfl ?_
  refine sim_grd fun h72 => ?_
  refine sc_gq (pc3 := 167) (cf_V (idx := 75) (ci := 7) [.ref (kad S68 19)] m_sb_append (by decide) ⟨by decide, by decide⟩ (List.mem_of_getElem? (i := 545) (by decide +kernel)) rfl (Nat.le_of_ble_eq_true rfl) h72 (by decide +kernel) (Nat.le_of_ble_eq_true rfl) rfl) (ok_sb_append r71 (kad S68 19) S68 w69) rfl (fun q73 S74 w75 h76 => ?_)
  refine sim_oc2 (fun _ => sim_none) (fun r77 _ => ?_)
  refine sim_seg [(.aload_n 0, 0, 0, 0), (.getfield 58, 6, 14, 0)] [] (q := 171) (L' := [some (.ref a0), some (.ref a1), some (.int x31), none, none, none]) (st' := [.int (gi w75 a0 14), .ref r77]) (v1 := w75) (by decide +kernel) rfl ⟨(h76.2.2.2.2 _ _ (h70.2.2.2.2 _ _ (h64.2.2.2.2 _ _ (h58.2.2.2.2 _ _ (h52.2.2.2.2 _ _ (h30.2.2.2.2 _ _ h28)))))), trivial⟩ ?_
  refine sim_grd fun h78 => ?_
  refine sc_gq (pc3 := 174) (cf_V (idx := 79) (ci := 7) [.int (gi w75 a0 14)] m_sb_append2 (by decide) ⟨by decide, by decide⟩ (List.mem_of_getElem? (i := 644) (by decide +kernel)) rfl (Nat.le_of_ble_eq_true rfl) h78 (by decide +kernel) (Nat.le_of_ble_eq_true rfl) rfl) (ok_sb_append2 N r77 (gi w75 a0 14) S74 w75) rfl (fun q79 S80 w81 h82 => ?_)
  refine sim_oc2 (fun _ => sim_none) (fun r83 _ => ?_)
  refine sim_ldcs (idx := 86) (j := 20) (tx := ";prescale ") (pc3 := 176) (by decide +kernel) (by decide +kernel) rfl ?_
  refine sim_grd fun h84 => ?_
  refine sc_gq (pc3 := 179) (cf_V (idx := 75) (ci := 7) [.ref (kad S80 20)] m_sb_append (by decide) ⟨by decide, by decide⟩ (List.mem_of_getElem? (i := 545) (by decide +kernel)) rfl (Nat.le_of_ble_eq_true rfl) h84 (by decide +kernel) (Nat.le_of_ble_eq_true rfl) rfl) (ok_sb_append r83 (kad S80 20) S80 w81) rfl (fun q85 S86 w87 h88 => ?_)
  refine sim_oc2 (fun _ => sim_none) (fun r89 _ => ?_)
  refine sim_seg [(.aload_n 0, 0, 0, 0), (.getfield 61, 6, 9, 0)] [] (q := 183) (L' := [some (.ref a0), some (.ref a1), some (.int x31), none, none, none]) (st' := [.int (gi w87 a0 9), .ref r89]) (v1 := w87) (by decide +kernel) rfl ⟨(h88.2.2.2.2 _ _ (h82.2.2.2.2 _ _ (h76.2.2.2.2 _ _ (h70.2.2.2.2 _ _ (h64.2.2.2.2 _ _ (h58.2.2.2.2 _ _ (h52.2.2.2.2 _ _ (h30.2.2.2.2 _ _ h28)))))))), trivial⟩ ?_
  refine sim_grd fun h90 => ?_
  refine sc_gq (pc3 := 186) (cf_V (idx := 79) (ci := 7) [.int (gi w87 a0 9)] m_sb_append2 (by decide) ⟨by decide, by decide⟩ (List.mem_of_getElem? (i := 644) (by decide +kernel)) rfl (Nat.le_of_ble_eq_true rfl) h90 (by decide +kernel) (Nat.le_of_ble_eq_true rfl) rfl) (ok_sb_append2 N r89 (gi w87 a0 9) S86 w87) rfl (fun q91 S92 w93 h94 => ?_)
  refine sim_oc2 (fun _ => sim_none) (fun r95 _ => ?_)
  refine sim_ldcs (idx := 88) (j := 21) (tx := ";gate ") (pc3 := 188) (by decide +kernel) (by decide +kernel) rfl ?_
  refine sim_grd fun h96 => ?_
  refine sc_gq (pc3 := 191) (cf_V (idx := 75) (ci := 7) [.ref (kad S92 21)] m_sb_append (by decide) ⟨by decide, by decide⟩ (List.mem_of_getElem? (i := 545) (by decide +kernel)) rfl (Nat.le_of_ble_eq_true rfl) h96 (by decide +kernel) (Nat.le_of_ble_eq_true rfl) rfl) (ok_sb_append r95 (kad S92 21) S92 w93) rfl (fun q97 S98 w99 h100 => ?_)
  refine sim_oc2 (fun _ => sim_none) (fun r101 _ => ?_)
  refine sim_seg [(.aload_n 0, 0, 0, 0), (.getfield 64, 6, 10, 0)] [] (q := 195) (L' := [some (.ref a0), some (.ref a1), some (.int x31), none, none, none]) (st' := [.int (gi w99 a0 10), .ref r101]) (v1 := w99) (by decide +kernel) rfl ⟨(h100.2.2.2.2 _ _ (h94.2.2.2.2 _ _ (h88.2.2.2.2 _ _ (h82.2.2.2.2 _ _ (h76.2.2.2.2 _ _ (h70.2.2.2.2 _ _ (h64.2.2.2.2 _ _ (h58.2.2.2.2 _ _ (h52.2.2.2.2 _ _ (h30.2.2.2.2 _ _ h28)))))))))), trivial⟩ ?_
  refine sim_grd fun h102 => ?_
  refine sc_gq (pc3 := 198) (cf_V (idx := 79) (ci := 7) [.int (gi w99 a0 10)] m_sb_append2 (by decide) ⟨by decide, by decide⟩ (List.mem_of_getElem? (i := 644) (by decide +kernel)) rfl (Nat.le_of_ble_eq_true rfl) h102 (by decide +kernel) (Nat.le_of_ble_eq_true rfl) rfl) (ok_sb_append2 N r101 (gi w99 a0 10) S98 w99) rfl (fun q103 S104 w105 h106 => ?_)
  refine sim_oc2 (fun _ => sim_none) (fun r107 _ => ?_)
  refine sim_ldcs (idx := 90) (j := 22) (tx := ";periods ") (pc3 := 200) (by decide +kernel) (by decide +kernel) rfl ?_
  refine sim_grd fun h108 => ?_
  refine sc_gq (pc3 := 203) (cf_V (idx := 75) (ci := 7) [.ref (kad S104 22)] m_sb_append (by decide) ⟨by decide, by decide⟩ (List.mem_of_getElem? (i := 545) (by decide +kernel)) rfl (Nat.le_of_ble_eq_true rfl) h108 (by decide +kernel) (Nat.le_of_ble_eq_true rfl) rfl) (ok_sb_append r107 (kad S104 22) S104 w105) rfl (fun q109 S110 w111 h112 => ?_)
  refine sim_oc2 (fun _ => sim_none) (fun r113 _ => ?_)
  refine sim_seg [(.aload_n 0, 0, 0, 0), (.getfield 67, 6, 11, 0)] [] (q := 207) (L' := [some (.ref a0), some (.ref a1), some (.int x31), none, none, none]) (st' := [.int (gi w111 a0 11), .ref r113]) (v1 := w111) (by decide +kernel) rfl ⟨(h112.2.2.2.2 _ _ (h106.2.2.2.2 _ _ (h100.2.2.2.2 _ _ (h94.2.2.2.2 _ _ (h88.2.2.2.2 _ _ (h82.2.2.2.2 _ _ (h76.2.2.2.2 _ _ (h70.2.2.2.2 _ _ (h64.2.2.2.2 _ _ (h58.2.2.2.2 _ _ (h52.2.2.2.2 _ _ (h30.2.2.2.2 _ _ h28)))))))))))), trivial⟩ ?_
  refine sim_grd fun h114 => ?_
  refine sc_gq (pc3 := 210) (cf_V (idx := 79) (ci := 7) [.int (gi w111 a0 11)] m_sb_append2 (by decide) ⟨by decide, by decide⟩ (List.mem_of_getElem? (i := 644) (by decide +kernel)) rfl (Nat.le_of_ble_eq_true rfl) h114 (by decide +kernel) (Nat.le_of_ble_eq_true rfl) rfl) (ok_sb_append2 N r113 (gi w111 a0 11) S110 w111) rfl (fun q115 S116 w117 h118 => ?_)
  refine sim_oc2 (fun _ => sim_none) (fun r119 _ => ?_)
  refine sim_seg [(.bipush 59, 0, 0, 59)] [] (q := 212) (L' := [some (.ref a0), some (.ref a1), some (.int x31), none, none, none]) (st' := [.int (J 59), .ref r119]) (v1 := w117) (by decide +kernel) rfl trivial ?_
  refine sim_grd fun h120 => ?_
  refine sc_gq (pc3 := 215) (cf_V (idx := 92) (ci := 7) [.int (J 59)] m_sb_append3 (by decide) ⟨by decide, by decide⟩ (List.mem_of_getElem? (i := 674) (by decide +kernel)) rfl (Nat.le_of_ble_eq_true rfl) h120 (by decide +kernel) (Nat.le_of_ble_eq_true rfl) rfl) (ok_sb_append3 r119 (J 59) S116 w117) rfl (fun q121 S122 w123 h124 => ?_)
  refine sim_oc2 (fun _ => sim_none) (fun r125 _ => ?_)
  refine sim_seg [(.pop, 0, 0, 0), (.aload_n 1, 0, 0, 0), (.iconst 1, 0, 0, 1)] [] (q := 218) (L' := [some (.ref a0), some (.ref a1), some (.int x31), none, none, none]) (st' := [.int (J 1), .ref a1]) (v1 := w123) (by decide +kernel) rfl trivial ?_
  refine sc_ri (pc3 := 221) (cf_S (idx := 43) [.ref a1, .int (J 1)] m_lw_cell ⟨by decide, by decide⟩ (List.mem_of_getElem? (i := 513) (by decide +kernel)) rfl (Nat.le_of_ble_eq_true rfl) (by decide +kernel) (Nat.le_of_ble_eq_true rfl) rfl) (ok_lw_cell a1 (J 1) S122 w123) rfl (fun x126 => ?_)
  refine sim_seg [(.iconst 0, 0, 0, 0), (.iconst 5, 0, 0, 5)] [] (q := 223) (L' := [some (.ref a0), some (.ref a1), some (.int x31), none, none, none]) (st' := [.int (J 5), .int (J 0), .int x126]) (v1 := w123) (by decide +kernel) rfl trivial ?_
  refine sc_ri (pc3 := 226) (cf_S (idx := 47) [.int x126, .int (J 0), .int (J 5)] m_lw_bits ⟨by decide, by decide⟩ (List.mem_of_getElem? (i := 541) (by decide +kernel)) rfl (Nat.le_of_ble_eq_true rfl) (by decide +kernel) (Nat.le_of_ble_eq_true rfl) rfl) (ok_lw_bits x126 (J 0) (J 5) S122 w123) rfl (fun x127 => ?_)
  refine sim_seg [(.istore_n 3, 0, 0, 0)] [] (q := 227) (L' := [some (.ref a0), some (.ref a1), some (.int x31), some (.int x127), none, none]) (st' := []) (v1 := w123) (by decide +kernel) rfl trivial ?_
  refine sim_seg [(.iconst 0, 0, 0, 0), (.istore 4, 0, 0, 0)] [] (q := 230) (L' := [some (.ref a0), some (.ref a1), some (.int x31), some (.int x127), some (.int (J 0)), none]) (st' := []) (v1 := w123) (by decide +kernel) rfl trivial ?_
  exact sim_wk (L0 := [some (.ref a0), some (.ref a1), none, some (.int x127), some (.int (J 0)), none]) ⟨rfl, rfl, rfl, rfl, trivial⟩ (sK_lw_init_230 N N S122 w123 a0 a1 x127 (J 0))
def B_lw_nextClock : bd := (⟨"GateCounterLaw", "nextClock", "()I"⟩, method_5_code, 1, (some .int), [], 6, 1)
theorem m_lw_nextClock : mV B_lw_nextClock 6 0 := ⟨⟨⟨by decide +kernel, Or.inl rfl⟩, rfl, (List.mem_of_getElem? (i := 854) (by decide +kernel)), by decide +kernel, (List.mem_of_getElem? (i := 44) (by decide +kernel)), ⟨by decide, by decide⟩, by decide⟩, rfl, (by unfold nar; decide +kernel), (List.mem_of_getElem? (i := 853) (by decide +kernel)), rfl, (List.mem_of_getElem? (i := 20) (by decide +kernel))⟩
noncomputable def F_lw_nextClock (a0 : Nat) (S : shp) (v : vl) : Option Int32 :=
  grd (kin S a0 = some (0, 6)) <| (F_ma_floorDiv2 (gl v a0 20) (JL 1000) S v).bind fun y2 => some ((((gi v a0 0) * ((gi v a0 5) + (J 1))) + (Int64.toInt32 y2)))
theorem ok_lw_nextClock (a0 : Nat) (S : shp) (v : vl) : SimK B_lw_nextClock 0 (entB (bN B_lw_nextClock) [.ref a0]) [] S v (F_lw_nextClock a0 S v) (ρri S v) := by
  show SimK B_lw_nextClock 0 [some (.ref a0)] [] S v (F_lw_nextClock a0 S v) _
  unfold F_lw_nextClock
  refine sim_grd fun h1 => ?_
  refine sim_seg [(.aload_n 0, 0, 0, 0), (.getfield 51, 6, 0, 0), (.aload_n 0, 0, 0, 0), (.getfield 97, 6, 5, 0), (.iconst 1, 0, 0, 1), (.iadd, 0, 0, 0), (.imul, 0, 0, 0), (.aload_n 0, 0, 0, 0), (.getfield 100, 6, 20, 0), (.ldc2_w 104, 0, 0, 1000)] [] (q := 18) (L' := [some (.ref a0)]) (st' := [.long (JL 1000), .long (gl v a0 20), .int ((gi v a0 0) * ((gi v a0 5) + (J 1)))]) (v1 := v) (by decide +kernel) rfl ⟨h1, h1, h1, trivial⟩ ?_
  refine sc_rl (pc3 := 21) (cf_S (idx := 106) [.long (gl v a0 20), .long (JL 1000)] m_ma_floorDiv2 ⟨by decide, by decide⟩ (List.mem_of_getElem? (i := 856) (by decide +kernel)) rfl (Nat.le_of_ble_eq_true rfl) (by decide +kernel) (Nat.le_of_ble_eq_true rfl) rfl) (ok_ma_floorDiv2 (gl v a0 20) (JL 1000) S v) rfl (fun y2 => ?_)
  refine sim_seg [(.l2i, 0, 0, 0), (.iadd, 0, 0, 0)] [] (q := 23) (L' := [some (.ref a0)]) (st' := [.int (((gi v a0 0) * ((gi v a0 5) + (J 1))) + (Int64.toInt32 y2))]) (v1 := v) (by decide +kernel) rfl trivial ?_
  exact sim_iret (by decide +kernel) rfl rfl rfl
def B_lw_nextEdge : bd := (⟨"GateCounterLaw", "nextEdge", "()I"⟩, method_6_code, 1, (some .int), [], 6, 0)
theorem m_lw_nextEdge : mV B_lw_nextEdge 6 0 := ⟨⟨⟨by decide +kernel, Or.inl rfl⟩, rfl, (List.mem_of_getElem? (i := 862) (by decide +kernel)), by decide +kernel, (List.mem_of_getElem? (i := 44) (by decide +kernel)), ⟨by decide, by decide⟩, by decide⟩, rfl, (by unfold nar; decide +kernel), (List.mem_of_getElem? (i := 861) (by decide +kernel)), rfl, (List.mem_of_getElem? (i := 21) (by decide +kernel))⟩
noncomputable def F_lw_nextEdge (a0 : Nat) (S : shp) (v : vl) : Option Int32 :=
  grd (kin S a0 = some (0, 6)) <| (if (gi v a0 18) = (J 0) then some ((J 9999999)) else some (((gi v a0 16) + ((gi v a0 18) * ((gi v a0 17) + (J 1))))))
theorem ok_lw_nextEdge (a0 : Nat) (S : shp) (v : vl) : SimK B_lw_nextEdge 0 (entB (bN B_lw_nextEdge) [.ref a0]) [] S v (F_lw_nextEdge a0 S v) (ρri S v) := by
  show SimK B_lw_nextEdge 0 [some (.ref a0)] [] S v (F_lw_nextEdge a0 S v) _
  unfold F_lw_nextEdge
  refine sim_grd fun h1 => ?_
  refine sim_seg [(.aload_n 0, 0, 0, 0), (.getfield 112, 6, 18, 0)] [] (q := 4) (L' := [some (.ref a0)]) (st' := [.int (gi v a0 18)]) (v1 := v) (by decide +kernel) rfl ⟨h1, trivial⟩ ?_
  refine sim_ne0 (o := 8) (tg := 12) (f := 7) (by decide +kernel) rfl rfl (fun _ => ?_) (fun _ => ?_)
  · refine sim_seg [(.ldc 115, 0, 0, 9999999), (.goto 19, 0, 0, 0)] [] (q := 28) (L' := [some (.ref a0)]) (st' := [.int (J 9999999)]) (v1 := v) (by decide +kernel) rfl trivial ?_
    exact sim_iret (by decide +kernel) rfl rfl rfl
  · refine sim_seg [(.aload_n 0, 0, 0, 0), (.getfield 116, 6, 16, 0), (.aload_n 0, 0, 0, 0), (.getfield 112, 6, 18, 0), (.aload_n 0, 0, 0, 0), (.getfield 119, 6, 17, 0), (.iconst 1, 0, 0, 1), (.iadd, 0, 0, 0), (.imul, 0, 0, 0), (.iadd, 0, 0, 0)] [] (q := 28) (L' := [some (.ref a0)]) (st' := [.int ((gi v a0 16) + ((gi v a0 18) * ((gi v a0 17) + (J 1))))]) (v1 := v) (by decide +kernel) rfl ⟨h1, h1, h1, trivial⟩ ?_
    exact sim_iret (by decide +kernel) rfl rfl rfl
def B_lw_nextSegment : bd := (⟨"GateCounterLaw", "nextSegment", "()I"⟩, method_7_code, 1, (some .int), [], 6, 0)
theorem m_lw_nextSegment : mV B_lw_nextSegment 6 0 := ⟨⟨⟨by decide +kernel, Or.inl rfl⟩, rfl, (List.mem_of_getElem? (i := 888) (by decide +kernel)), by decide +kernel, (List.mem_of_getElem? (i := 44) (by decide +kernel)), ⟨by decide, by decide⟩, by decide⟩, rfl, (by unfold nar; decide +kernel), (List.mem_of_getElem? (i := 887) (by decide +kernel)), rfl, (List.mem_of_getElem? (i := 25) (by decide +kernel))⟩
noncomputable def F_lw_nextSegment (a0 : Nat) (S : shp) (v : vl) : Option Int32 :=
  grd (kin S a0 = some (0, 6)) <| (if (gi v a0 15) < (gi v a0 1) then (gr S a0 2).bind fun r2 => grd (kin S r2 = some (1, 4)) <| grd (vp_in (gi v a0 15) (alen S r2)) <| some ((gi v r2 (Int32.toNatClampNeg (gi v a0 15)))) else some ((J 9999999)))
theorem ok_lw_nextSegment (a0 : Nat) (S : shp) (v : vl) : SimK B_lw_nextSegment 0 (entB (bN B_lw_nextSegment) [.ref a0]) [] S v (F_lw_nextSegment a0 S v) (ρri S v) := by
  show SimK B_lw_nextSegment 0 [some (.ref a0)] [] S v (F_lw_nextSegment a0 S v) _
  unfold F_lw_nextSegment
  refine sim_grd fun h1 => ?_
  refine sim_seg [(.aload_n 0, 0, 0, 0), (.getfield 122, 6, 15, 0), (.aload_n 0, 0, 0, 0), (.getfield 70, 6, 1, 0)] [] (q := 8) (L' := [some (.ref a0)]) (st' := [.int (gi v a0 1), .int (gi v a0 15)]) (v1 := v) (by decide +kernel) rfl ⟨h1, h1, trivial⟩ ?_
  refine sim_ge (o := 15) (tg := 23) (f := 11) (by decide +kernel) rfl rfl (fun _ => ?_) (fun _ => ?_)
  · refine sim_bind fun r2 h3 => ?_
    refine sim_grd fun h4 => ?_
    refine sim_grd fun h5 => ?_
    refine sim_seg [(.aload_n 0, 0, 0, 0), (.getfield 27, 6, 2, 0), (.aload_n 0, 0, 0, 0), (.getfield 122, 6, 15, 0), (.iaload, 0, 0, 0), (.goto 5, 0, 0, 0)] [r2] (q := 25) (L' := [some (.ref a0)]) (st' := [.int (gi v r2 (Int32.toNatClampNeg (gi v a0 15)))]) (v1 := v) (by decide +kernel) rfl ⟨⟨h1, h3⟩, h1, ⟨(Or.inl (kin_alen h4)), h5⟩, trivial⟩ ?_
    exact sim_iret (by decide +kernel) rfl rfl rfl
  · refine sim_seg [(.ldc 115, 0, 0, 9999999)] [] (q := 25) (L' := [some (.ref a0)]) (st' := [.int (J 9999999)]) (v1 := v) (by decide +kernel) rfl trivial ?_
    exact sim_iret (by decide +kernel) rfl rfl rfl
def B_lw_comes : bd := (⟨"GateCounterLaw", "comes", "(I)I"⟩, method_8_code, 3, (some .int), [], 6, 2)
theorem m_lw_comes : mV B_lw_comes 6 1 := ⟨⟨⟨by decide +kernel, Or.inl rfl⟩, rfl, (List.mem_of_getElem? (i := 884) (by decide +kernel)), by decide +kernel, (List.mem_of_getElem? (i := 44) (by decide +kernel)), ⟨by decide, by decide⟩, by decide⟩, rfl, (by unfold nar; decide +kernel), (List.mem_of_getElem? (i := 883) (by decide +kernel)), rfl, (List.mem_of_getElem? (i := 24) (by decide +kernel))⟩
noncomputable def F_lw_comes (a0 : Nat) (b1 : Int32) (S : shp) (v : vl) : Option (Int32 × vl) :=
  grd (kin S a0 = some (0, 6)) <| (F_lw_nextSegment a0 S v).bind fun x2 => (F_lw_nextClock a0 S v).bind fun x3 => (F_lw_nextEdge a0 S v).bind fun x4 => (F_ma_min x3 x4 S v).bind fun x5 => (F_ma_min x2 x5 S v).bind fun x6 => (if b1 < x6 then some (((J 0), v)) else lt (si v a0 4 x6) fun w7 => (F_lw_nextSegment a0 S w7).bind fun x8 => (if x8 = x6 then lt (si (si w7 a0 16 x6) a0 17 (J 0)) fun w9 => (gr S a0 3).bind fun r10 => grd (kin S r10 = some (1, 4)) <| grd (vp_in (gi w9 a0 15) (alen S r10)) <| lt (si w9 a0 18 (gi w9 r10 (Int32.toNatClampNeg (gi w9 a0 15)))) fun w14 => lt (si w14 a0 15 ((gi w14 a0 15) + (J 1))) fun w15 => some (((J 1), w15)) else (F_lw_nextClock a0 S w7).bind fun x16 => (if x16 = x6 then lt (si w7 a0 5 ((gi w7 a0 5) + (J 1))) fun w17 => (if ((gi w17 a0 5) - (gi w17 a0 5) / (J 100) * (J 100)) = (J 0) then (F_ma_min (J 99) ((gi w17 a0 13) + (gi w17 a0 14)) S w17).bind fun x18 => (F_ma_max (J (-99)) x18 S w17).bind fun x19 => lt (si w17 a0 13 x19) fun w20 => lt (si (sl w20 a0 20 ((gl w20 a0 20) + (Int32.toInt64 (gi w20 a0 13)))) a0 19 x6) fun w21 => some (((J 2), w21)) else lt (si (sl w17 a0 20 ((gl w17 a0 20) + (Int32.toInt64 (gi w17 a0 13)))) a0 19 x6) fun w22 => some (((J 2), w22))) else lt (si w7 a0 17 ((gi w7 a0 17) + (J 1))) fun w23 => lt (si w23 a0 6 ((gi w23 a0 6) + (J 1))) fun w24 => lt (si w24 a0 8 ((gi w24 a0 8) + (J 1))) fun w25 => (if (gi w25 a0 8) < (gi w25 a0 9) then some (((J 3), w25)) else lt (si w25 a0 8 (J 0)) fun w26 => lt (si w26 a0 7 ((gi w26 a0 7) + (J 1))) fun w27 => some (((J 4), w27))))))
theorem ok_lw_comes (a0 : Nat) (b1 : Int32) (S : shp) (v : vl) : SimK B_lw_comes 0 (entB (bN B_lw_comes) [.ref a0, .int b1]) [] S v (F_lw_comes a0 b1 S v) (ρpi S) := by
  show SimK B_lw_comes 0 [some (.ref a0), some (.int b1), none] [] S v (F_lw_comes a0 b1 S v) _
  unfold F_lw_comes
  refine sim_seg [(.aload_n 0, 0, 0, 0)] [] (q := 1) (L' := [some (.ref a0), some (.int b1), none]) (st' := [.ref a0]) (v1 := v) (by decide +kernel) rfl trivial ?_
  refine sim_grd fun h1 => ?_
  refine sc_ri (pc3 := 4) (cf_V (idx := 125) (ci := 6) [] m_lw_nextSegment (by decide) ⟨by decide, by decide⟩ (List.mem_of_getElem? (i := 885) (by decide +kernel)) rfl (Nat.le_of_ble_eq_true rfl) h1 (by decide +kernel) (Nat.le_of_ble_eq_true rfl) rfl) (ok_lw_nextSegment a0 S v) rfl (fun x2 => ?_)
  refine sim_seg [(.aload_n 0, 0, 0, 0)] [] (q := 5) (L' := [some (.ref a0), some (.int b1), none]) (st' := [.ref a0, .int x2]) (v1 := v) (by decide +kernel) rfl trivial ?_
  refine sc_ri (pc3 := 8) (cf_V (idx := 128) (ci := 6) [] m_lw_nextClock (by decide) ⟨by decide, by decide⟩ (List.mem_of_getElem? (i := 851) (by decide +kernel)) rfl (Nat.le_of_ble_eq_true rfl) h1 (by decide +kernel) (Nat.le_of_ble_eq_true rfl) rfl) (ok_lw_nextClock a0 S v) rfl (fun x3 => ?_)
  refine sim_seg [(.aload_n 0, 0, 0, 0)] [] (q := 9) (L' := [some (.ref a0), some (.int b1), none]) (st' := [.ref a0, .int x3, .int x2]) (v1 := v) (by decide +kernel) rfl trivial ?_
  refine sc_ri (pc3 := 12) (cf_V (idx := 131) (ci := 6) [] m_lw_nextEdge (by decide) ⟨by decide, by decide⟩ (List.mem_of_getElem? (i := 859) (by decide +kernel)) rfl (Nat.le_of_ble_eq_true rfl) h1 (by decide +kernel) (Nat.le_of_ble_eq_true rfl) rfl) (ok_lw_nextEdge a0 S v) rfl (fun x4 => ?_)
  refine sc_ri (pc3 := 15) (cf_S (idx := 134) [.int x3, .int x4] m_ma_min ⟨by decide, by decide⟩ (List.mem_of_getElem? (i := 889) (by decide +kernel)) rfl (Nat.le_of_ble_eq_true rfl) (by decide +kernel) (Nat.le_of_ble_eq_true rfl) rfl) (ok_ma_min x3 x4 S v) rfl (fun x5 => ?_)
  refine sc_ri (pc3 := 18) (cf_S (idx := 134) [.int x2, .int x5] m_ma_min ⟨by decide, by decide⟩ (List.mem_of_getElem? (i := 889) (by decide +kernel)) rfl (Nat.le_of_ble_eq_true rfl) (by decide +kernel) (Nat.le_of_ble_eq_true rfl) rfl) (ok_ma_min x2 x5 S v) rfl (fun x6 => ?_)
  refine sim_seg [(.istore_n 2, 0, 0, 0)] [] (q := 19) (L' := [some (.ref a0), some (.int b1), some (.int x6)]) (st' := []) (v1 := v) (by decide +kernel) rfl trivial ?_
  refine sim_seg [(.iload_n 2, 0, 0, 0), (.iload_n 1, 0, 0, 0)] [] (q := 21) (L' := [some (.ref a0), some (.int b1), some (.int x6)]) (st' := [.int b1, .int x6]) (v1 := v) (by decide +kernel) rfl trivial ?_
  refine sim_le (o := 5) (tg := 26) (f := 24) (by decide +kernel) rfl rfl (fun _ => ?_) (fun _ => ?_)
  · refine sim_seg [(.iconst 0, 0, 0, 0)] [] (q := 25) (L' := [some (.ref a0), some (.int b1), some (.int x6)]) (st' := [.int (J 0)]) (v1 := v) (by decide +kernel) rfl trivial ?_
    exact sim_iret (by decide +kernel) rfl rfl rfl
  · refine sim_seg [(.aload_n 0, 0, 0, 0), (.iload_n 2, 0, 0, 0), (.putfield 138, 6, 4, 0), (.aload_n 0, 0, 0, 0)] [] (q := 32) (L' := [some (.ref a0), some (.int b1), some (.int x6)]) (st' := [.ref a0]) (v1 := (si v a0 4 x6)) (by decide +kernel) rfl ⟨h1, trivial⟩ ?_
    refine sim_lt (x := (si v a0 4 x6)) ?_
    generalize (si v a0 4 x6) = w7
    refine sc_ri (pc3 := 35) (cf_V (idx := 125) (ci := 6) [] m_lw_nextSegment (by decide) ⟨by decide, by decide⟩ (List.mem_of_getElem? (i := 885) (by decide +kernel)) rfl (Nat.le_of_ble_eq_true rfl) h1 (by decide +kernel) (Nat.le_of_ble_eq_true rfl) rfl) (ok_lw_nextSegment a0 S w7) rfl (fun x8 => ?_)
    refine sim_seg [(.iload_n 2, 0, 0, 0)] [] (q := 36) (L' := [some (.ref a0), some (.int b1), some (.int x6)]) (st' := [.int x6, .int x8]) (v1 := w7) (by decide +kernel) rfl trivial ?_
    refine sim_ne (o := 38) (tg := 74) (f := 39) (by decide +kernel) rfl rfl (fun _ => ?_) (fun _ => ?_)
    · refine sim_seg [(.aload_n 0, 0, 0, 0), (.iload_n 2, 0, 0, 0), (.putfield 116, 6, 16, 0), (.aload_n 0, 0, 0, 0), (.iconst 0, 0, 0, 0), (.putfield 119, 6, 17, 0), (.aload_n 0, 0, 0, 0), (.aload_n 0, 0, 0, 0)] [] (q := 51) (L' := [some (.ref a0), some (.int b1), some (.int x6)]) (st' := [.ref a0, .ref a0]) (v1 := (si (si w7 a0 16 x6) a0 17 (J 0))) (by decide +kernel) rfl ⟨h1, h1, trivial⟩ ?_
      refine sim_lt (x := (si (si w7 a0 16 x6) a0 17 (J 0))) ?_
      generalize (si (si w7 a0 16 x6) a0 17 (J 0)) = w9
      refine sim_bind fun r10 h11 => ?_
      refine sim_grd fun h12 => ?_
      refine sim_grd fun h13 => ?_
      refine sim_seg [(.getfield 33, 6, 3, 0), (.aload_n 0, 0, 0, 0), (.getfield 122, 6, 15, 0), (.iaload, 0, 0, 0), (.putfield 112, 6, 18, 0), (.aload_n 0, 0, 0, 0), (.dup, 0, 0, 0)] [r10] (q := 64) (L' := [some (.ref a0), some (.int b1), some (.int x6)]) (st' := [.ref a0, .ref a0]) (v1 := (si w9 a0 18 (gi w9 r10 (Int32.toNatClampNeg (gi w9 a0 15))))) (by decide +kernel) rfl ⟨⟨h1, h11⟩, h1, ⟨(Or.inl (kin_alen h12)), h13⟩, h1, trivial⟩ ?_
      refine sim_lt (x := (si w9 a0 18 (gi w9 r10 (Int32.toNatClampNeg (gi w9 a0 15))))) ?_
      generalize (si w9 a0 18 (gi w9 r10 (Int32.toNatClampNeg (gi w9 a0 15)))) = w14
      refine sim_seg [(.getfield 122, 6, 15, 0), (.iconst 1, 0, 0, 1), (.iadd, 0, 0, 0), (.putfield 122, 6, 15, 0), (.iconst 1, 0, 0, 1)] [] (q := 73) (L' := [some (.ref a0), some (.int b1), some (.int x6)]) (st' := [.int (J 1)]) (v1 := (si w14 a0 15 ((gi w14 a0 15) + (J 1)))) (by decide +kernel) rfl ⟨h1, h1, trivial⟩ ?_
      refine sim_lt (x := (si w14 a0 15 ((gi w14 a0 15) + (J 1)))) ?_
      generalize (si w14 a0 15 ((gi w14 a0 15) + (J 1))) = w15
      exact sim_iret (by decide +kernel) rfl rfl rfl
    · refine sim_seg [(.aload_n 0, 0, 0, 0)] [] (q := 75) (L' := [some (.ref a0), some (.int b1), some (.int x6)]) (st' := [.ref a0]) (v1 := w7) (by decide +kernel) rfl trivial ?_
      refine sc_ri (pc3 := 78) (cf_V (idx := 128) (ci := 6) [] m_lw_nextClock (by decide) ⟨by decide, by decide⟩ (List.mem_of_getElem? (i := 851) (by decide +kernel)) rfl (Nat.le_of_ble_eq_true rfl) h1 (by decide +kernel) (Nat.le_of_ble_eq_true rfl) rfl) (ok_lw_nextClock a0 S w7) rfl (fun x16 => ?_)
      refine sim_seg [(.iload_n 2, 0, 0, 0)] [] (q := 79) (L' := [some (.ref a0), some (.int b1), some (.int x6)]) (st' := [.int x6, .int x16]) (v1 := w7) (by decide +kernel) rfl trivial ?_
      refine sim_ne (o := 67) (tg := 146) (f := 82) (by decide +kernel) rfl rfl (fun _ => ?_) (fun _ => ?_)
      · refine sim_seg [(.aload_n 0, 0, 0, 0), (.dup, 0, 0, 0), (.getfield 97, 6, 5, 0), (.iconst 1, 0, 0, 1), (.iadd, 0, 0, 0), (.putfield 97, 6, 5, 0), (.aload_n 0, 0, 0, 0)] [] (q := 93) (L' := [some (.ref a0), some (.int b1), some (.int x6)]) (st' := [.ref a0]) (v1 := (si w7 a0 5 ((gi w7 a0 5) + (J 1)))) (by decide +kernel) rfl ⟨h1, h1, trivial⟩ ?_
        refine sim_lt (x := (si w7 a0 5 ((gi w7 a0 5) + (J 1)))) ?_
        generalize (si w7 a0 5 ((gi w7 a0 5) + (J 1))) = w17
        refine sim_seg [(.getfield 97, 6, 5, 0), (.bipush 100, 0, 0, 100), (.irem, 0, 0, 0)] [] (q := 99) (L' := [some (.ref a0), some (.int b1), some (.int x6)]) (st' := [.int ((gi w17 a0 5) - (gi w17 a0 5) / (J 100) * (J 100))]) (v1 := w17) (by decide +kernel) rfl ⟨h1, (by decide), trivial⟩ ?_
        refine sim_ne0 (o := 26) (tg := 125) (f := 102) (by decide +kernel) rfl rfl (fun _ => ?_) (fun _ => ?_)
        · refine sim_seg [(.aload_n 0, 0, 0, 0), (.bipush (-99), 0, 0, (-99)), (.bipush 99, 0, 0, 99), (.aload_n 0, 0, 0, 0), (.getfield 55, 6, 13, 0), (.aload_n 0, 0, 0, 0), (.getfield 58, 6, 14, 0), (.iadd, 0, 0, 0)] [] (q := 116) (L' := [some (.ref a0), some (.int b1), some (.int x6)]) (st' := [.int ((gi w17 a0 13) + (gi w17 a0 14)), .int (J 99), .int (J (-99)), .ref a0]) (v1 := w17) (by decide +kernel) rfl ⟨h1, h1, trivial⟩ ?_
          refine sc_ri (pc3 := 119) (cf_S (idx := 134) [.int (J 99), .int ((gi w17 a0 13) + (gi w17 a0 14))] m_ma_min ⟨by decide, by decide⟩ (List.mem_of_getElem? (i := 889) (by decide +kernel)) rfl (Nat.le_of_ble_eq_true rfl) (by decide +kernel) (Nat.le_of_ble_eq_true rfl) rfl) (ok_ma_min (J 99) ((gi w17 a0 13) + (gi w17 a0 14)) S w17) rfl (fun x18 => ?_)
          refine sc_ri (pc3 := 122) (cf_S (idx := 141) [.int (J (-99)), .int x18] m_ma_max ⟨by decide, by decide⟩ (List.mem_of_getElem? (i := 890) (by decide +kernel)) rfl (Nat.le_of_ble_eq_true rfl) (by decide +kernel) (Nat.le_of_ble_eq_true rfl) rfl) (ok_ma_max (J (-99)) x18 S w17) rfl (fun x19 => ?_)
          refine sim_seg [(.putfield 55, 6, 13, 0), (.aload_n 0, 0, 0, 0), (.dup, 0, 0, 0)] [] (q := 127) (L' := [some (.ref a0), some (.int b1), some (.int x6)]) (st' := [.ref a0, .ref a0]) (v1 := (si w17 a0 13 x19)) (by decide +kernel) rfl ⟨h1, trivial⟩ ?_
          refine sim_lt (x := (si w17 a0 13 x19)) ?_
          generalize (si w17 a0 13 x19) = w20
          refine sim_seg [(.getfield 100, 6, 20, 0), (.aload_n 0, 0, 0, 0), (.getfield 55, 6, 13, 0), (.i2l, 0, 0, 0), (.ladd, 0, 0, 0), (.putfield 100, 6, 20, 0), (.aload_n 0, 0, 0, 0), (.iload_n 2, 0, 0, 0), (.putfield 144, 6, 19, 0), (.iconst 2, 0, 0, 2)] [] (q := 145) (L' := [some (.ref a0), some (.int b1), some (.int x6)]) (st' := [.int (J 2)]) (v1 := (si (sl w20 a0 20 ((gl w20 a0 20) + (Int32.toInt64 (gi w20 a0 13)))) a0 19 x6)) (by decide +kernel) rfl ⟨h1, h1, h1, h1, trivial⟩ ?_
          refine sim_lt (x := (si (sl w20 a0 20 ((gl w20 a0 20) + (Int32.toInt64 (gi w20 a0 13)))) a0 19 x6)) ?_
          generalize (si (sl w20 a0 20 ((gl w20 a0 20) + (Int32.toInt64 (gi w20 a0 13)))) a0 19 x6) = w21
          exact sim_iret (by decide +kernel) rfl rfl rfl
        · refine sim_seg [(.aload_n 0, 0, 0, 0), (.dup, 0, 0, 0), (.getfield 100, 6, 20, 0), (.aload_n 0, 0, 0, 0), (.getfield 55, 6, 13, 0), (.i2l, 0, 0, 0), (.ladd, 0, 0, 0), (.putfield 100, 6, 20, 0), (.aload_n 0, 0, 0, 0), (.iload_n 2, 0, 0, 0), (.putfield 144, 6, 19, 0), (.iconst 2, 0, 0, 2)] [] (q := 145) (L' := [some (.ref a0), some (.int b1), some (.int x6)]) (st' := [.int (J 2)]) (v1 := (si (sl w17 a0 20 ((gl w17 a0 20) + (Int32.toInt64 (gi w17 a0 13)))) a0 19 x6)) (by decide +kernel) rfl ⟨h1, h1, h1, h1, trivial⟩ ?_
          refine sim_lt (x := (si (sl w17 a0 20 ((gl w17 a0 20) + (Int32.toInt64 (gi w17 a0 13)))) a0 19 x6)) ?_
          generalize (si (sl w17 a0 20 ((gl w17 a0 20) + (Int32.toInt64 (gi w17 a0 13)))) a0 19 x6) = w22
          exact sim_iret (by decide +kernel) rfl rfl rfl
      · refine sim_seg [(.aload_n 0, 0, 0, 0), (.dup, 0, 0, 0), (.getfield 119, 6, 17, 0), (.iconst 1, 0, 0, 1), (.iadd, 0, 0, 0), (.putfield 119, 6, 17, 0), (.aload_n 0, 0, 0, 0), (.dup, 0, 0, 0)] [] (q := 158) (L' := [some (.ref a0), some (.int b1), some (.int x6)]) (st' := [.ref a0, .ref a0]) (v1 := (si w7 a0 17 ((gi w7 a0 17) + (J 1)))) (by decide +kernel) rfl ⟨h1, h1, trivial⟩ ?_
        refine sim_lt (x := (si w7 a0 17 ((gi w7 a0 17) + (J 1)))) ?_
        generalize (si w7 a0 17 ((gi w7 a0 17) + (J 1))) = w23
        refine sim_seg [(.getfield 147, 6, 6, 0), (.iconst 1, 0, 0, 1), (.iadd, 0, 0, 0), (.putfield 147, 6, 6, 0), (.aload_n 0, 0, 0, 0), (.dup, 0, 0, 0)] [] (q := 168) (L' := [some (.ref a0), some (.int b1), some (.int x6)]) (st' := [.ref a0, .ref a0]) (v1 := (si w23 a0 6 ((gi w23 a0 6) + (J 1)))) (by decide +kernel) rfl ⟨h1, h1, trivial⟩ ?_
        refine sim_lt (x := (si w23 a0 6 ((gi w23 a0 6) + (J 1)))) ?_
        generalize (si w23 a0 6 ((gi w23 a0 6) + (J 1))) = w24
        refine sim_seg [(.getfield 150, 6, 8, 0), (.iconst 1, 0, 0, 1), (.iadd, 0, 0, 0), (.putfield 150, 6, 8, 0), (.aload_n 0, 0, 0, 0)] [] (q := 177) (L' := [some (.ref a0), some (.int b1), some (.int x6)]) (st' := [.ref a0]) (v1 := (si w24 a0 8 ((gi w24 a0 8) + (J 1)))) (by decide +kernel) rfl ⟨h1, h1, trivial⟩ ?_
        refine sim_lt (x := (si w24 a0 8 ((gi w24 a0 8) + (J 1)))) ?_
        generalize (si w24 a0 8 ((gi w24 a0 8) + (J 1))) = w25
        refine sim_seg [(.getfield 150, 6, 8, 0), (.aload_n 0, 0, 0, 0), (.getfield 61, 6, 9, 0)] [] (q := 184) (L' := [some (.ref a0), some (.int b1), some (.int x6)]) (st' := [.int (gi w25 a0 9), .int (gi w25 a0 8)]) (v1 := w25) (by decide +kernel) rfl ⟨h1, h1, trivial⟩ ?_
        refine sim_ge (o := 5) (tg := 189) (f := 187) (by decide +kernel) rfl rfl (fun _ => ?_) (fun _ => ?_)
        · refine sim_seg [(.iconst 3, 0, 0, 3)] [] (q := 188) (L' := [some (.ref a0), some (.int b1), some (.int x6)]) (st' := [.int (J 3)]) (v1 := w25) (by decide +kernel) rfl trivial ?_
          exact sim_iret (by decide +kernel) rfl rfl rfl
        · refine sim_seg [(.aload_n 0, 0, 0, 0), (.iconst 0, 0, 0, 0), (.putfield 150, 6, 8, 0), (.aload_n 0, 0, 0, 0), (.dup, 0, 0, 0)] [] (q := 196) (L' := [some (.ref a0), some (.int b1), some (.int x6)]) (st' := [.ref a0, .ref a0]) (v1 := (si w25 a0 8 (J 0))) (by decide +kernel) rfl ⟨h1, trivial⟩ ?_
          refine sim_lt (x := (si w25 a0 8 (J 0))) ?_
          generalize (si w25 a0 8 (J 0)) = w26
          refine sim_seg [(.getfield 153, 6, 7, 0), (.iconst 1, 0, 0, 1), (.iadd, 0, 0, 0), (.putfield 153, 6, 7, 0), (.iconst 4, 0, 0, 4)] [] (q := 205) (L' := [some (.ref a0), some (.int b1), some (.int x6)]) (st' := [.int (J 4)]) (v1 := (si w26 a0 7 ((gi w26 a0 7) + (J 1)))) (by decide +kernel) rfl ⟨h1, h1, trivial⟩ ?_
          refine sim_lt (x := (si w26 a0 7 ((gi w26 a0 7) + (J 1)))) ?_
          generalize (si w26 a0 7 ((gi w26 a0 7) + (J 1))) = w27
          exact sim_iret (by decide +kernel) rfl rfl rfl
def B_lw_counts : bd := (⟨"GateCounterLaw", "counts", "(III)V"⟩, method_11_code, 6, none, [], 6, 3)
theorem m_lw_counts : mV B_lw_counts 6 3 := ⟨⟨⟨by decide +kernel, Or.inl rfl⟩, rfl, (List.mem_of_getElem? (i := 894) (by decide +kernel)), by decide +kernel, (List.mem_of_getElem? (i := 44) (by decide +kernel)), ⟨by decide, by decide⟩, by decide⟩, rfl, (by unfold nar; decide +kernel), (List.mem_of_getElem? (i := 893) (by decide +kernel)), rfl, (List.mem_of_getElem? (i := 26) (by decide +kernel))⟩
noncomputable def K_lw_counts_32 (N : Nat) (i3 : vl → Nat → Int32 → Int32 → Int32 → Option vl) (S : shp) (v : vl) (p0 : Nat) (p1 : Int32) (p2 : Int32) (p4 : Int32) (p5 : Int32) (s0 : Nat) (s1 : Int32) (s2 : Int32) : Option vl :=
  grd (kin S s0 = some (0, 6)) <| lt (si v s0 23 (s1 + s2)) fun w5 => (if p5 = p1 then i3 w5 p0 p1 p2 (p4 - (J 1)) else i3 w5 p0 p1 p2 (p4 - (J 0)))
theorem sK_lw_counts_320 (N : Nat) (i3 : vl → Nat → Int32 → Int32 → Int32 → Option vl) (S : shp) (j3 : ∀ (v : vl) (p0 : Nat) (p1 : Int32) (p2 : Int32) (p4 : Int32), SimK B_lw_counts 3 [some (.ref p0), some (.int p1), some (.int p2), none, some (.int p4), none] [] S v (i3 v p0 p1 p2 p4) (ρpv S)) (v : vl) (p0 : Nat) (p1 : Int32) (p2 : Int32) (p4 : Int32) (p5 : Int32) (s0 : Nat) (s1 : Int32) (s2 : Int32) : SimK B_lw_counts 32 [some (.ref p0), some (.int p1), some (.int p2), none, some (.int p4), some (.int p5)] [.int s2, .int s1, .ref s0] S v (K_lw_counts_32 N i3 S v p0 p1 p2 p4 p5 s0 s1 s2) (ρpv S) := by
  unfold K_lw_counts_32
  refine sim_grd fun h4 => ?_
  refine sim_seg [(.iadd, 0, 0, 0), (.putfield 160, 6, 23, 0), (.iload 4, 0, 0, 0), (.iload 5, 0, 0, 0), (.iload_n 1, 0, 0, 0)] [] (q := 41) (L' := [some (.ref p0), some (.int p1), some (.int p2), none, some (.int p4), some (.int p5)]) (st' := [.int p1, .int p5, .int p4]) (v1 := (si v s0 23 (s1 + s2))) (by decide +kernel) rfl ⟨h4, trivial⟩ ?_
  refine sim_lt (x := (si v s0 23 (s1 + s2))) ?_
  generalize (si v s0 23 (s1 + s2)) = w5
  refine sim_ne (o := 7) (tg := 48) (f := 44) (by decide +kernel) rfl rfl (fun _ => ?_) (fun _ => ?_)
  · refine sim_seg [(.iconst 1, 0, 0, 1), (.goto 4, 0, 0, 0), (.isub, 0, 0, 0), (.istore 4, 0, 0, 0)] [] (q := 52) (L' := [some (.ref p0), some (.int p1), some (.int p2), none, some (.int (p4 - (J 1))), some (.int p5)]) (st' := []) (v1 := w5) (by decide +kernel) rfl trivial ?_
    refine sim_seg [(.goto (-49), 0, 0, 0)] [] (q := 3) (L' := [some (.ref p0), some (.int p1), some (.int p2), none, some (.int (p4 - (J 1))), some (.int p5)]) (st' := []) (v1 := w5) (by decide +kernel) rfl trivial ?_
    exact sim_wk (L0 := [some (.ref p0), some (.int p1), some (.int p2), none, some (.int (p4 - (J 1))), none]) ⟨rfl, rfl, rfl, rfl, trivial⟩ (j3 w5 p0 p1 p2 (p4 - (J 1)))
  · refine sim_seg [(.iconst 0, 0, 0, 0), (.isub, 0, 0, 0), (.istore 4, 0, 0, 0)] [] (q := 52) (L' := [some (.ref p0), some (.int p1), some (.int p2), none, some (.int (p4 - (J 0))), some (.int p5)]) (st' := []) (v1 := w5) (by decide +kernel) rfl trivial ?_
    refine sim_seg [(.goto (-49), 0, 0, 0)] [] (q := 3) (L' := [some (.ref p0), some (.int p1), some (.int p2), none, some (.int (p4 - (J 0))), some (.int p5)]) (st' := []) (v1 := w5) (by decide +kernel) rfl trivial ?_
    exact sim_wk (L0 := [some (.ref p0), some (.int p1), some (.int p2), none, some (.int (p4 - (J 0))), none]) ⟨rfl, rfl, rfl, rfl, trivial⟩ (j3 w5 p0 p1 p2 (p4 - (J 0)))
theorem sK_lw_counts_32 (N : Nat) (i3 : vl → Nat → Int32 → Int32 → Int32 → Option vl) {S : shp} (j3 : ∀ (v : vl) (p0 : Nat) (p1 : Int32) (p2 : Int32) (p4 : Int32), SimK B_lw_counts 3 [some (.ref p0), some (.int p1), some (.int p2), none, some (.int p4), none] [] S v (i3 v p0 p1 p2 p4) (ρpv S)) (S1 : shp) (v : vl) (p0 : Nat) (p1 : Int32) (p2 : Int32) (p4 : Int32) (p5 : Int32) (s0 : Nat) (s1 : Int32) (s2 : Int32) : SimK B_lw_counts 32 [some (.ref p0), some (.int p1), some (.int p2), none, some (.int p4), some (.int p5)] [.int s2, .int s1, .ref s0] S v (K_lw_counts_32 N i3 S v p0 p1 p2 p4 p5 s0 s1 s2) (ρpv S) := sK_lw_counts_320 N  i3 S j3  v p0 p1 p2 p4 p5 s0 s1 s2
noncomputable def Y_lw_counts_3 (N : Nat)  (i3 : vl → Nat → Int32 → Int32 → Int32 → Option vl) (S : shp) (v : vl) (p0 : Nat) (p1 : Int32) (p2 : Int32) (p4 : Int32) : Option vl :=
  (if (J 0) < p4 then grd (kin S p0 = some (0, 6)) <| (F_lw_comes p0 (J 2000000) S v).bind fun (x2, w3) => (if x2 = p2 then K_lw_counts_32 N i3 S w3 p0 p1 p2 p4 x2 p0 (gi w3 p0 23) (J 1) else K_lw_counts_32 N i3 S w3 p0 p1 p2 p4 x2 p0 (gi w3 p0 23) (J 0)) else grd (kin S p0 = some (0, 6)) <| lt (si v p0 22 (gi v p0 4)) fun w7 => some (w7))
noncomputable def K_lw_counts_3 (N : Nat)  (n : Nat) (S : shp) : vl → Nat → Int32 → Int32 → Int32 → Option vl :=
  Nat.rec (motive := fun _ => vl → Nat → Int32 → Int32 → Int32 → Option vl) (fun _ _ _ _ _ => none) (fun _ i => Y_lw_counts_3 N  i S) n
theorem sY_lw_counts_3 (N : Nat)  (i3 : vl → Nat → Int32 → Int32 → Int32 → Option vl) (S : shp)  (j3 : ∀ (v : vl) (p0 : Nat) (p1 : Int32) (p2 : Int32) (p4 : Int32), SimK B_lw_counts 3 [some (.ref p0), some (.int p1), some (.int p2), none, some (.int p4), none] [] S v (i3 v p0 p1 p2 p4) (ρpv S)) (v : vl) (p0 : Nat) (p1 : Int32) (p2 : Int32) (p4 : Int32) : SimK B_lw_counts 3 [some (.ref p0), some (.int p1), some (.int p2), none, some (.int p4), none] [] S v (Y_lw_counts_3 N  i3 S v p0 p1 p2 p4) (ρpv S) := by
  unfold Y_lw_counts_3
  refine sim_seg [(.iload 4, 0, 0, 0)] [] (q := 5) (L' := [some (.ref p0), some (.int p1), some (.int p2), none, some (.int p4), none]) (st' := [.int p4]) (v1 := v) (by decide +kernel) rfl trivial ?_
  refine sim_le0 (o := 50) (tg := 55) (f := 8) (by decide +kernel) rfl rfl (fun _ => ?_) (fun _ => ?_)
  · refine sim_seg [(.aload_n 0, 0, 0, 0), (.ldc 163, 0, 0, 2000000)] [] (q := 11) (L' := [some (.ref p0), some (.int p1), some (.int p2), none, some (.int p4), none]) (st' := [.int (J 2000000), .ref p0]) (v1 := v) (by decide +kernel) rfl trivial ?_
    refine sim_grd fun h1 => ?_
    refine sc_pi (pc3 := 14) (cf_V (idx := 156) (ci := 6) [.int (J 2000000)] m_lw_comes (by decide) ⟨by decide, by decide⟩ (List.mem_of_getElem? (i := 881) (by decide +kernel)) rfl (Nat.le_of_ble_eq_true rfl) h1 (by decide +kernel) (Nat.le_of_ble_eq_true rfl) rfl) (ok_lw_comes p0 (J 2000000) S v) rfl (fun x2 w3 => ?_)
    refine sim_seg [(.istore 5, 0, 0, 0)] [] (q := 16) (L' := [some (.ref p0), some (.int p1), some (.int p2), none, some (.int p4), some (.int x2)]) (st' := []) (v1 := w3) (by decide +kernel) rfl trivial ?_
    refine sim_seg [(.aload_n 0, 0, 0, 0), (.dup, 0, 0, 0), (.getfield 160, 6, 23, 0), (.iload 5, 0, 0, 0), (.iload_n 2, 0, 0, 0)] [] (q := 24) (L' := [some (.ref p0), some (.int p1), some (.int p2), none, some (.int p4), some (.int x2)]) (st' := [.int p2, .int x2, .int (gi w3 p0 23), .ref p0]) (v1 := w3) (by decide +kernel) rfl ⟨h1, trivial⟩ ?_
    refine sim_ne (o := 7) (tg := 31) (f := 27) (by decide +kernel) rfl rfl (fun _ => ?_) (fun _ => ?_)
    · refine sim_seg [(.iconst 1, 0, 0, 1), (.goto 4, 0, 0, 0)] [] (q := 32) (L' := [some (.ref p0), some (.int p1), some (.int p2), none, some (.int p4), some (.int x2)]) (st' := [.int (J 1), .int (gi w3 p0 23), .ref p0]) (v1 := w3) (by decide +kernel) rfl trivial ?_
      exact sK_lw_counts_32 N i3 j3 S w3 p0 p1 p2 p4 x2 p0 (gi w3 p0 23) (J 1)
    · refine sim_seg [(.iconst 0, 0, 0, 0)] [] (q := 32) (L' := [some (.ref p0), some (.int p1), some (.int p2), none, some (.int p4), some (.int x2)]) (st' := [.int (J 0), .int (gi w3 p0 23), .ref p0]) (v1 := w3) (by decide +kernel) rfl trivial ?_
      exact sK_lw_counts_32 N i3 j3 S w3 p0 p1 p2 p4 x2 p0 (gi w3 p0 23) (J 0)
  · refine sim_grd fun h6 => ?_
    refine sim_seg [(.aload_n 0, 0, 0, 0), (.aload_n 0, 0, 0, 0), (.getfield 138, 6, 4, 0), (.putfield 167, 6, 22, 0)] [] (q := 63) (L' := [some (.ref p0), some (.int p1), some (.int p2), none, some (.int p4), none]) (st' := []) (v1 := (si v p0 22 (gi v p0 4))) (by decide +kernel) rfl ⟨h6, h6, trivial⟩ ?_
    refine sim_lt (x := (si v p0 22 (gi v p0 4))) ?_
    generalize (si v p0 22 (gi v p0 4)) = w7
    exact sim_vret (by decide +kernel) rfl rfl
theorem sR_lw_counts_3 (N : Nat)  (S : shp)  (n : Nat) : ∀ (v : vl) (p0 : Nat) (p1 : Int32) (p2 : Int32) (p4 : Int32), SimK B_lw_counts 3 [some (.ref p0), some (.int p1), some (.int p2), none, some (.int p4), none] [] S v (K_lw_counts_3 N  n S v p0 p1 p2 p4) (ρpv S) := by
  induction n with
  | zero => intro v p0 p1 p2 p4; exact sim_none
  | succ k ih => intro v p0 p1 p2 p4; exact sY_lw_counts_3 N   _ S  ih v p0 p1 p2 p4
theorem sK_lw_counts_3 (N : Nat)  (n : Nat) (S : shp) (v : vl) (p0 : Nat) (p1 : Int32) (p2 : Int32) (p4 : Int32) : SimK B_lw_counts 3 [some (.ref p0), some (.int p1), some (.int p2), none, some (.int p4), none] [] S v (K_lw_counts_3 N  n S v p0 p1 p2 p4) (ρpv S) := sR_lw_counts_3 N   S  n  v p0 p1 p2 p4
noncomputable def F_lw_counts (N : Nat) (a0 : Nat) (b1 : Int32) (b2 : Int32) (b3 : Int32) (S : shp) (v : vl) : Option vl :=
  K_lw_counts_3 N  N S v a0 b1 b2 b3
theorem ok_lw_counts (N : Nat) (a0 : Nat) (b1 : Int32) (b2 : Int32) (b3 : Int32) (S : shp) (v : vl) : SimK B_lw_counts 0 (entB (bN B_lw_counts) [.ref a0, .int b1, .int b2, .int b3]) [] S v (F_lw_counts N a0 b1 b2 b3 S v) (ρpv S) := by
  show SimK B_lw_counts 0 [some (.ref a0), some (.int b1), some (.int b2), some (.int b3), none, none] [] S v (F_lw_counts N a0 b1 b2 b3 S v) _
  unfold F_lw_counts
  refine sim_seg [(.iload_n 3, 0, 0, 0), (.istore 4, 0, 0, 0)] [] (q := 3) (L' := [some (.ref a0), some (.int b1), some (.int b2), some (.int b3), some (.int b3), none]) (st' := []) (v1 := v) (by decide +kernel) rfl trivial ?_
  exact sim_wk (L0 := [some (.ref a0), some (.int b1), some (.int b2), none, some (.int b3), none]) ⟨rfl, rfl, rfl, rfl, trivial⟩ (sK_lw_counts_3 N N S v a0 b1 b2 b3)
def B_lw_goes : bd := (⟨"GateCounterLaw", "goes", "(I)V"⟩, method_9_code, 2, none, [], 6, 3)
theorem m_lw_goes : mV B_lw_goes 6 1 := ⟨⟨⟨by decide +kernel, Or.inl rfl⟩, rfl, (List.mem_of_getElem? (i := 1122) (by decide +kernel)), by decide +kernel, (List.mem_of_getElem? (i := 44) (by decide +kernel)), ⟨by decide, by decide⟩, by decide⟩, rfl, (by unfold nar; decide +kernel), (List.mem_of_getElem? (i := 1121) (by decide +kernel)), rfl, (List.mem_of_getElem? (i := 43) (by decide +kernel))⟩
noncomputable def Y_lw_goes_0 (N : Nat)  (i0 : vl → Nat → Int32 → Option vl) (S : shp) (v : vl) (p0 : Nat) (p1 : Int32) : Option vl :=
  grd (kin S p0 = some (0, 6)) <| (F_lw_comes p0 p1 S v).bind fun (x2, w3) => (if (J 0) < x2 then lt (si w3 p0 23 ((gi w3 p0 23) + (J 1))) fun w4 => i0 w4 p0 p1 else lt (si w3 p0 4 p1) fun w5 => some (w5))
noncomputable def K_lw_goes_0 (N : Nat)  (n : Nat) (S : shp) : vl → Nat → Int32 → Option vl :=
  Nat.rec (motive := fun _ => vl → Nat → Int32 → Option vl) (fun _ _ _ => none) (fun _ i => Y_lw_goes_0 N  i S) n
theorem sY_lw_goes_0 (N : Nat)  (i0 : vl → Nat → Int32 → Option vl) (S : shp)  (j0 : ∀ (v : vl) (p0 : Nat) (p1 : Int32), SimK B_lw_goes 0 [some (.ref p0), some (.int p1)] [] S v (i0 v p0 p1) (ρpv S)) (v : vl) (p0 : Nat) (p1 : Int32) : SimK B_lw_goes 0 [some (.ref p0), some (.int p1)] [] S v (Y_lw_goes_0 N  i0 S v p0 p1) (ρpv S) := by
  unfold Y_lw_goes_0
  refine sim_seg [(.aload_n 0, 0, 0, 0), (.iload_n 1, 0, 0, 0)] [] (q := 2) (L' := [some (.ref p0), some (.int p1)]) (st' := [.int p1, .ref p0]) (v1 := v) (by decide +kernel) rfl trivial ?_
  refine sim_grd fun h1 => ?_
  refine sc_pi (pc3 := 5) (cf_V (idx := 156) (ci := 6) [.int p1] m_lw_comes (by decide) ⟨by decide, by decide⟩ (List.mem_of_getElem? (i := 881) (by decide +kernel)) rfl (Nat.le_of_ble_eq_true rfl) h1 (by decide +kernel) (Nat.le_of_ble_eq_true rfl) rfl) (ok_lw_comes p0 p1 S v) rfl (fun x2 w3 => ?_)
  refine sim_le0 (o := 16) (tg := 21) (f := 8) (by decide +kernel) rfl rfl (fun _ => ?_) (fun _ => ?_)
  · refine sim_seg [(.aload_n 0, 0, 0, 0), (.dup, 0, 0, 0), (.getfield 160, 6, 23, 0), (.iconst 1, 0, 0, 1), (.iadd, 0, 0, 0), (.putfield 160, 6, 23, 0), (.goto (-18), 0, 0, 0)] [] (q := 0) (L' := [some (.ref p0), some (.int p1)]) (st' := []) (v1 := (si w3 p0 23 ((gi w3 p0 23) + (J 1)))) (by decide +kernel) rfl ⟨h1, h1, trivial⟩ ?_
    refine sim_lt (x := (si w3 p0 23 ((gi w3 p0 23) + (J 1)))) ?_
    generalize (si w3 p0 23 ((gi w3 p0 23) + (J 1))) = w4
    exact j0 w4 p0 p1
  · refine sim_seg [(.aload_n 0, 0, 0, 0), (.iload_n 1, 0, 0, 0), (.putfield 138, 6, 4, 0)] [] (q := 26) (L' := [some (.ref p0), some (.int p1)]) (st' := []) (v1 := (si w3 p0 4 p1)) (by decide +kernel) rfl ⟨h1, trivial⟩ ?_
    refine sim_lt (x := (si w3 p0 4 p1)) ?_
    generalize (si w3 p0 4 p1) = w5
    exact sim_vret (by decide +kernel) rfl rfl
theorem sR_lw_goes_0 (N : Nat)  (S : shp)  (n : Nat) : ∀ (v : vl) (p0 : Nat) (p1 : Int32), SimK B_lw_goes 0 [some (.ref p0), some (.int p1)] [] S v (K_lw_goes_0 N  n S v p0 p1) (ρpv S) := by
  induction n with
  | zero => intro v p0 p1; exact sim_none
  | succ k ih => intro v p0 p1; exact sY_lw_goes_0 N   _ S  ih v p0 p1
theorem sK_lw_goes_0 (N : Nat)  (n : Nat) (S : shp) (v : vl) (p0 : Nat) (p1 : Int32) : SimK B_lw_goes 0 [some (.ref p0), some (.int p1)] [] S v (K_lw_goes_0 N  n S v p0 p1) (ρpv S) := sR_lw_goes_0 N   S  n  v p0 p1
noncomputable def F_lw_goes (N : Nat) (a0 : Nat) (b1 : Int32) (S : shp) (v : vl) : Option vl :=
  K_lw_goes_0 N  N S v a0 b1
theorem ok_lw_goes (N : Nat) (a0 : Nat) (b1 : Int32) (S : shp) (v : vl) : SimK B_lw_goes 0 (entB (bN B_lw_goes) [.ref a0, .int b1]) [] S v (F_lw_goes N a0 b1 S v) (ρpv S) := by
  show SimK B_lw_goes 0 [some (.ref a0), some (.int b1)] [] S v (F_lw_goes N a0 b1 S v) _
  unfold F_lw_goes
  exact sK_lw_goes_0 N N S v a0 b1
def B_lw_value : bd := (⟨"GateCounterLaw", "value", "(I)I"⟩, method_12_code, 6, (some .int), [], 6, 0)
theorem m_lw_value : mV B_lw_value 6 1 := ⟨⟨⟨by decide +kernel, Or.inl rfl⟩, rfl, (List.mem_of_getElem? (i := 1040) (by decide +kernel)), by decide +kernel, (List.mem_of_getElem? (i := 44) (by decide +kernel)), ⟨by decide, by decide⟩, by decide⟩, rfl, (by unfold nar; decide +kernel), (List.mem_of_getElem? (i := 1039) (by decide +kernel)), rfl, (List.mem_of_getElem? (i := 39) (by decide +kernel))⟩
noncomputable def K_lw_value_35  (S : shp) (v : vl) (p0 : Nat) (p2 : Int64) (s0 : Int64) : Option Int32 :=
  grd (kin S p0 = some (0, 6)) <| grd (¬ ((s0 * (Int32.toInt64 (gi v p0 0))) * (Int32.toInt64 ((J 1000) + (gi v p0 12)))) = 0) <| lt (((p2 * (Int32.toInt64 (gi v p0 9))) * (JL 1000000000)) / ((s0 * (Int32.toInt64 (gi v p0 0))) * (Int32.toInt64 ((J 1000) + (gi v p0 12))))) fun y4 => some ((Int64.toInt32 y4))
theorem sK_lw_value_35   (S : shp) (v : vl) (p0 : Nat) (p2 : Int64) (s0 : Int64) : SimK B_lw_value 35 [some (.ref p0), none, some (.long p2), none, none, none] [.long s0] S v (K_lw_value_35   S v p0 p2 s0) (ρri S v) := by
  unfold K_lw_value_35
  refine sim_seg [(.lstore 4, 0, 0, 0)] [] (q := 37) (L' := [some (.ref p0), none, some (.long p2), none, some (.long s0), none]) (st' := []) (v1 := v) (by decide +kernel) rfl trivial ?_
  refine sim_grd fun h2 => ?_
  refine sim_seg [(.lload_n 2, 0, 0, 0), (.aload_n 0, 0, 0, 0), (.getfield 61, 6, 9, 0), (.i2l, 0, 0, 0), (.lmul, 0, 0, 0), (.ldc2_w 170, 0, 0, 1000000000), (.lmul, 0, 0, 0), (.lload 4, 0, 0, 0), (.aload_n 0, 0, 0, 0), (.getfield 51, 6, 0, 0), (.i2l, 0, 0, 0), (.lmul, 0, 0, 0)] [] (q := 56) (L' := [some (.ref p0), none, some (.long p2), none, some (.long s0), none]) (st' := [.long (s0 * (Int32.toInt64 (gi v p0 0))), .long ((p2 * (Int32.toInt64 (gi v p0 9))) * (JL 1000000000))]) (v1 := v) (by decide +kernel) rfl ⟨h2, h2, trivial⟩ ?_
  refine sim_grd fun h3 => ?_
  refine sim_seg [(.sipush 1000, 0, 0, 1000), (.aload_n 0, 0, 0, 0), (.getfield 172, 6, 12, 0), (.iadd, 0, 0, 0), (.i2l, 0, 0, 0), (.lmul, 0, 0, 0), (.ldiv, 0, 0, 0)] [] (q := 67) (L' := [some (.ref p0), none, some (.long p2), none, some (.long s0), none]) (st' := [.long (((p2 * (Int32.toInt64 (gi v p0 9))) * (JL 1000000000)) / ((s0 * (Int32.toInt64 (gi v p0 0))) * (Int32.toInt64 ((J 1000) + (gi v p0 12)))))]) (v1 := v) (by decide +kernel) rfl ⟨h2, h3, trivial⟩ ?_
  refine sim_nm (((p2 * (Int32.toInt64 (gi v p0 9))) * (JL 1000000000)) / ((s0 * (Int32.toInt64 (gi v p0 0))) * (Int32.toInt64 ((J 1000) + (gi v p0 12))))) (fun y4 => [some (.ref p0), none, some (.long p2), none, some (.long s0), none]) (fun y4 => [.long y4]) (fun y4 => ?_) rfl rfl
  refine sim_seg [(.l2i, 0, 0, 0)] [] (q := 68) (L' := [some (.ref p0), none, some (.long p2), none, some (.long s0), none]) (st' := [.int (Int64.toInt32 y4)]) (v1 := v) (by decide +kernel) rfl trivial ?_
  exact sim_iret (by decide +kernel) rfl rfl rfl
noncomputable def F_lw_value (a0 : Nat) (b1 : Int32) (S : shp) (v : vl) : Option Int32 :=
  (if b1 = (J 0) then grd (kin S a0 = some (0, 6)) <| (if b1 = (J 0) then K_lw_value_35  S v a0 (Int32.toInt64 (gi v a0 23)) (Int32.toInt64 (gi v a0 10)) else K_lw_value_35  S v a0 (Int32.toInt64 (gi v a0 23)) (Int32.toInt64 (gi v a0 23))) else grd (kin S a0 = some (0, 6)) <| (if b1 = (J 0) then K_lw_value_35  S v a0 (Int32.toInt64 (gi v a0 11)) (Int32.toInt64 (gi v a0 10)) else K_lw_value_35  S v a0 (Int32.toInt64 (gi v a0 11)) (Int32.toInt64 (gi v a0 23))))
theorem ok_lw_value (a0 : Nat) (b1 : Int32) (S : shp) (v : vl) : SimK B_lw_value 0 (entB (bN B_lw_value) [.ref a0, .int b1]) [] S v (F_lw_value a0 b1 S v) (ρri S v) := by
  show SimK B_lw_value 0 [some (.ref a0), some (.int b1), none, none, none, none] [] S v (F_lw_value a0 b1 S v) _
  unfold F_lw_value
  refine sim_seg [(.iload_n 1, 0, 0, 0)] [] (q := 1) (L' := [some (.ref a0), some (.int b1), none, none, none, none]) (st' := [.int b1]) (v1 := v) (by decide +kernel) rfl trivial ?_
  refine sim_ne0 (o := 11) (tg := 12) (f := 4) (by decide +kernel) rfl rfl (fun _ => ?_) (fun _ => ?_)
  · refine sim_grd fun h1 => ?_
    refine sim_seg [(.aload_n 0, 0, 0, 0), (.getfield 160, 6, 23, 0), (.i2l, 0, 0, 0), (.goto 8, 0, 0, 0), (.lstore_n 2, 0, 0, 0)] [] (q := 18) (L' := [some (.ref a0), some (.int b1), some (.long (Int32.toInt64 (gi v a0 23))), none, none, none]) (st' := []) (v1 := v) (by decide +kernel) rfl ⟨h1, trivial⟩ ?_
    refine sim_seg [(.iload_n 1, 0, 0, 0)] [] (q := 19) (L' := [some (.ref a0), some (.int b1), some (.long (Int32.toInt64 (gi v a0 23))), none, none, none]) (st' := [.int b1]) (v1 := v) (by decide +kernel) rfl trivial ?_
    refine sim_ne0 (o := 11) (tg := 30) (f := 22) (by decide +kernel) rfl rfl (fun _ => ?_) (fun _ => ?_)
    · refine sim_seg [(.aload_n 0, 0, 0, 0), (.getfield 64, 6, 10, 0), (.i2l, 0, 0, 0), (.goto 8, 0, 0, 0)] [] (q := 35) (L' := [some (.ref a0), some (.int b1), some (.long (Int32.toInt64 (gi v a0 23))), none, none, none]) (st' := [.long (Int32.toInt64 (gi v a0 10))]) (v1 := v) (by decide +kernel) rfl ⟨h1, trivial⟩ ?_
      exact sim_wk (L0 := [some (.ref a0), none, some (.long (Int32.toInt64 (gi v a0 23))), none, none, none]) ⟨rfl, rfl, trivial⟩ (sK_lw_value_35 S v a0 (Int32.toInt64 (gi v a0 23)) (Int32.toInt64 (gi v a0 10)))
    · refine sim_seg [(.aload_n 0, 0, 0, 0), (.getfield 160, 6, 23, 0), (.i2l, 0, 0, 0)] [] (q := 35) (L' := [some (.ref a0), some (.int b1), some (.long (Int32.toInt64 (gi v a0 23))), none, none, none]) (st' := [.long (Int32.toInt64 (gi v a0 23))]) (v1 := v) (by decide +kernel) rfl ⟨h1, trivial⟩ ?_
      exact sim_wk (L0 := [some (.ref a0), none, some (.long (Int32.toInt64 (gi v a0 23))), none, none, none]) ⟨rfl, rfl, trivial⟩ (sK_lw_value_35 S v a0 (Int32.toInt64 (gi v a0 23)) (Int32.toInt64 (gi v a0 23)))
  · refine sim_grd fun h5 => ?_
    refine sim_seg [(.aload_n 0, 0, 0, 0), (.getfield 67, 6, 11, 0), (.i2l, 0, 0, 0), (.lstore_n 2, 0, 0, 0)] [] (q := 18) (L' := [some (.ref a0), some (.int b1), some (.long (Int32.toInt64 (gi v a0 11))), none, none, none]) (st' := []) (v1 := v) (by decide +kernel) rfl ⟨h5, trivial⟩ ?_
    refine sim_seg [(.iload_n 1, 0, 0, 0)] [] (q := 19) (L' := [some (.ref a0), some (.int b1), some (.long (Int32.toInt64 (gi v a0 11))), none, none, none]) (st' := [.int b1]) (v1 := v) (by decide +kernel) rfl trivial ?_
    refine sim_ne0 (o := 11) (tg := 30) (f := 22) (by decide +kernel) rfl rfl (fun _ => ?_) (fun _ => ?_)
    · refine sim_seg [(.aload_n 0, 0, 0, 0), (.getfield 64, 6, 10, 0), (.i2l, 0, 0, 0), (.goto 8, 0, 0, 0)] [] (q := 35) (L' := [some (.ref a0), some (.int b1), some (.long (Int32.toInt64 (gi v a0 11))), none, none, none]) (st' := [.long (Int32.toInt64 (gi v a0 10))]) (v1 := v) (by decide +kernel) rfl ⟨h5, trivial⟩ ?_
      exact sim_wk (L0 := [some (.ref a0), none, some (.long (Int32.toInt64 (gi v a0 11))), none, none, none]) ⟨rfl, rfl, trivial⟩ (sK_lw_value_35 S v a0 (Int32.toInt64 (gi v a0 11)) (Int32.toInt64 (gi v a0 10)))
    · refine sim_seg [(.aload_n 0, 0, 0, 0), (.getfield 160, 6, 23, 0), (.i2l, 0, 0, 0)] [] (q := 35) (L' := [some (.ref a0), some (.int b1), some (.long (Int32.toInt64 (gi v a0 11))), none, none, none]) (st' := [.long (Int32.toInt64 (gi v a0 23))]) (v1 := v) (by decide +kernel) rfl ⟨h5, trivial⟩ ?_
      exact sim_wk (L0 := [some (.ref a0), none, some (.long (Int32.toInt64 (gi v a0 11))), none, none, none]) ⟨rfl, rfl, trivial⟩ (sK_lw_value_35 S v a0 (Int32.toInt64 (gi v a0 11)) (Int32.toInt64 (gi v a0 23)))
def B_lw_isMade : bd := (⟨"GateCounterLaw", "isMade", "(LGateCounter;II)Z"⟩, method_13_code, 6, (some .boolean), [], 6, 9)
theorem m_lw_isMade : mV B_lw_isMade 6 3 := ⟨⟨⟨by decide +kernel, Or.inl rfl⟩, rfl, (List.mem_of_getElem? (i := 1036) (by decide +kernel)), by decide +kernel, (List.mem_of_getElem? (i := 44) (by decide +kernel)), ⟨by decide, by decide⟩, by decide⟩, rfl, (by unfold nar; decide +kernel), (List.mem_of_getElem? (i := 1035) (by decide +kernel)), rfl, (List.mem_of_getElem? (i := 38) (by decide +kernel))⟩
noncomputable def K_lw_isMade_178 (N : Nat)  (S : shp) (v : vl) (p0 : Nat) (p1 : Nat) (p4 : Int32) (s0 : Int32) (s1 : Int32) : Option Int32 :=
  (if s0 = s1 then grd (kin S p1 = some (0, 5)) <| bx (F_gc_measurement N p1 p4 (J 7) S v) (fun _ => none) fun x16 => grd (kin S p0 = some (0, 6)) <| (if x16 = (gi v p0 12) then (F_gc_reason p1 S v).bind fun x18 => (if x18 = (J 0) then some ((J 1)) else some ((J 0))) else some ((J 0))) else some ((J 0)))
theorem sK_lw_isMade_178 (N : Nat)   (S : shp) (v : vl) (p0 : Nat) (p1 : Nat) (p4 : Int32) (s0 : Int32) (s1 : Int32) : SimK B_lw_isMade 178 [some (.ref p0), some (.ref p1), none, none, some (.int p4), none] [.int s1, .int s0] S v (K_lw_isMade_178 N  S v p0 p1 p4 s0 s1) (ρri S v) := by
  unfold K_lw_isMade_178
  refine sim_ne (o := 29) (tg := 207) (f := 181) (by decide +kernel) rfl rfl (fun _ => ?_) (fun _ => ?_)
  · refine sim_seg [(.aload_n 1, 0, 0, 0), (.iload 4, 0, 0, 0), (.bipush 7, 0, 0, 7)] [] (q := 186) (L' := [some (.ref p0), some (.ref p1), none, none, some (.int p4), none]) (st' := [.int (J 7), .int p4, .ref p1]) (v1 := v) (by decide +kernel) rfl trivial ?_
    refine sim_grd fun h15 => ?_
    refine sc_xi (pc3 := 189) (cf_V (idx := 180) (ci := 5) [.int p4, .int (J 7)] m_gc_measurement (by decide) ⟨by decide, by decide⟩ (List.mem_of_getElem? (i := 1042) (by decide +kernel)) rfl (Nat.le_of_ble_eq_true rfl) h15 (by decide +kernel) (Nat.le_of_ble_eq_true rfl) rfl) (ok_gc_measurement N p1 p4 (J 7) S v) rfl rfl (fun k0 b hb => by cases hb) (fun x16 => ?_)
    refine sim_grd fun h17 => ?_
    refine sim_seg [(.aload_n 0, 0, 0, 0), (.getfield 172, 6, 12, 0)] [] (q := 193) (L' := [some (.ref p0), some (.ref p1), none, none, some (.int p4), none]) (st' := [.int (gi v p0 12), .int x16]) (v1 := v) (by decide +kernel) rfl ⟨h17, trivial⟩ ?_
    refine sim_ne (o := 14) (tg := 207) (f := 196) (by decide +kernel) rfl rfl (fun _ => ?_) (fun _ => ?_)
    · refine sim_seg [(.aload_n 1, 0, 0, 0)] [] (q := 197) (L' := [some (.ref p0), some (.ref p1), none, none, some (.int p4), none]) (st' := [.ref p1]) (v1 := v) (by decide +kernel) rfl trivial ?_
      refine sc_ri (pc3 := 200) (cf_V (idx := 183) (ci := 5) [] m_gc_reason (by decide) ⟨by decide, by decide⟩ (List.mem_of_getElem? (i := 1073) (by decide +kernel)) rfl (Nat.le_of_ble_eq_true rfl) h15 (by decide +kernel) (Nat.le_of_ble_eq_true rfl) rfl) (ok_gc_reason p1 S v) rfl (fun x18 => ?_)
      refine sim_ne0 (o := 7) (tg := 207) (f := 203) (by decide +kernel) rfl rfl (fun _ => ?_) (fun _ => ?_)
      · refine sim_seg [(.iconst 1, 0, 0, 1), (.goto 4, 0, 0, 0)] [] (q := 208) (L' := [some (.ref p0), some (.ref p1), none, none, some (.int p4), none]) (st' := [.int (J 1)]) (v1 := v) (by decide +kernel) rfl trivial ?_
        exact sim_iret (by decide +kernel) rfl (by decide) rfl
      · refine sim_seg [(.iconst 0, 0, 0, 0)] [] (q := 208) (L' := [some (.ref p0), some (.ref p1), none, none, some (.int p4), none]) (st' := [.int (J 0)]) (v1 := v) (by decide +kernel) rfl trivial ?_
        exact sim_iret (by decide +kernel) rfl (by decide) rfl
    · refine sim_seg [(.iconst 0, 0, 0, 0)] [] (q := 208) (L' := [some (.ref p0), some (.ref p1), none, none, some (.int p4), none]) (st' := [.int (J 0)]) (v1 := v) (by decide +kernel) rfl trivial ?_
      exact sim_iret (by decide +kernel) rfl (by decide) rfl
  · refine sim_seg [(.iconst 0, 0, 0, 0)] [] (q := 208) (L' := [some (.ref p0), some (.ref p1), none, none, some (.int p4), none]) (st' := [.int (J 0)]) (v1 := v) (by decide +kernel) rfl trivial ?_
    exact sim_iret (by decide +kernel) rfl (by decide) rfl
noncomputable def K_lw_isMade_155 (N : Nat)  (S : shp) (v : vl) (p0 : Nat) (p1 : Nat) (p2 : Int32) (p4 : Int32) : Option Int32 :=
  grd (kin S p1 = some (0, 5)) <| bx (F_gc_measurement N p1 p4 (J 6) S v) (fun _ => none) fun x13 => (if p2 = (J 0) then grd (kin S p0 = some (0, 6)) <| K_lw_isMade_178 N  S v p0 p1 p4 x13 (gi v p0 10) else grd (kin S p0 = some (0, 6)) <| K_lw_isMade_178 N  S v p0 p1 p4 x13 (gi v p0 11))
theorem sK_lw_isMade_155 (N : Nat)   (S : shp) (v : vl) (p0 : Nat) (p1 : Nat) (p2 : Int32) (p4 : Int32) : SimK B_lw_isMade 155 [some (.ref p0), some (.ref p1), some (.int p2), none, some (.int p4), none] [] S v (K_lw_isMade_155 N  S v p0 p1 p2 p4) (ρri S v) := by
  unfold K_lw_isMade_155
  refine sim_seg [(.aload_n 1, 0, 0, 0), (.iload 4, 0, 0, 0), (.bipush 6, 0, 0, 6)] [] (q := 160) (L' := [some (.ref p0), some (.ref p1), some (.int p2), none, some (.int p4), none]) (st' := [.int (J 6), .int p4, .ref p1]) (v1 := v) (by decide +kernel) rfl trivial ?_
  refine sim_grd fun h12 => ?_
  refine sc_xi (pc3 := 163) (cf_V (idx := 180) (ci := 5) [.int p4, .int (J 6)] m_gc_measurement (by decide) ⟨by decide, by decide⟩ (List.mem_of_getElem? (i := 1042) (by decide +kernel)) rfl (Nat.le_of_ble_eq_true rfl) h12 (by decide +kernel) (Nat.le_of_ble_eq_true rfl) rfl) (ok_gc_measurement N p1 p4 (J 6) S v) rfl rfl (fun k0 b hb => by cases hb) (fun x13 => ?_)
  refine sim_seg [(.iload_n 2, 0, 0, 0)] [] (q := 164) (L' := [some (.ref p0), some (.ref p1), some (.int p2), none, some (.int p4), none]) (st' := [.int p2, .int x13]) (v1 := v) (by decide +kernel) rfl trivial ?_
  refine sim_ne0 (o := 10) (tg := 174) (f := 167) (by decide +kernel) rfl rfl (fun _ => ?_) (fun _ => ?_)
  · refine sim_grd fun h14 => ?_
    refine sim_seg [(.aload_n 0, 0, 0, 0), (.getfield 64, 6, 10, 0), (.goto 7, 0, 0, 0)] [] (q := 178) (L' := [some (.ref p0), some (.ref p1), some (.int p2), none, some (.int p4), none]) (st' := [.int (gi v p0 10), .int x13]) (v1 := v) (by decide +kernel) rfl ⟨h14, trivial⟩ ?_
    exact sim_wk (L0 := [some (.ref p0), some (.ref p1), none, none, some (.int p4), none]) ⟨rfl, rfl, rfl, trivial⟩ (sK_lw_isMade_178 N S v p0 p1 p4 x13 (gi v p0 10))
  · refine sim_grd fun h19 => ?_
    refine sim_seg [(.aload_n 0, 0, 0, 0), (.getfield 67, 6, 11, 0)] [] (q := 178) (L' := [some (.ref p0), some (.ref p1), some (.int p2), none, some (.int p4), none]) (st' := [.int (gi v p0 11), .int x13]) (v1 := v) (by decide +kernel) rfl ⟨h19, trivial⟩ ?_
    exact sim_wk (L0 := [some (.ref p0), some (.ref p1), none, none, some (.int p4), none]) ⟨rfl, rfl, rfl, trivial⟩ (sK_lw_isMade_178 N S v p0 p1 p4 x13 (gi v p0 11))
noncomputable def K_lw_isMade_62 (N : Nat)  (S : shp) (v : vl) (p0 : Nat) (p1 : Nat) (p2 : Int32) (p3 : Int32) (p4 : Int32) (s0 : Int32) : Option Int32 :=
  grd (kin S p0 = some (0, 6)) <| (F_lw_value p0 p2 S v).bind fun x5 => (if p3 = x5 then grd (kin S p1 = some (0, 5)) <| bx (F_gc_measurement N p1 p4 (J 0) S v) (fun _ => none) fun x7 => (if x7 = p2 then bx (F_gc_measurement N p1 p4 (J 1) S v) (fun _ => none) fun x8 => (if x8 = (gi v p0 21) then bx (F_gc_measurement N p1 p4 (J 2) S v) (fun _ => none) fun x9 => (if x9 = (gi v p0 22) then bx (F_gc_measurement N p1 p4 (J 3) S v) (fun _ => none) fun x10 => (if x10 = (gi v p0 23) then bx (F_gc_measurement N p1 p4 (J 4) S v) (fun _ => none) fun x11 => (if x11 = p3 then (if s0 = (J 4) then K_lw_isMade_155 N  S v p0 p1 p2 p4 else bx (F_gc_measurement N p1 p4 (J 5) S v) (fun _ => none) fun x20 => (if x20 = s0 then K_lw_isMade_155 N  S v p0 p1 p2 p4 else some ((J 0)))) else some ((J 0))) else some ((J 0))) else some ((J 0))) else some ((J 0))) else some ((J 0))) else some ((J 0)))
theorem sK_lw_isMade_62 (N : Nat)   (S : shp) (v : vl) (p0 : Nat) (p1 : Nat) (p2 : Int32) (p3 : Int32) (p4 : Int32) (s0 : Int32) : SimK B_lw_isMade 62 [some (.ref p0), some (.ref p1), some (.int p2), some (.int p3), some (.int p4), none] [.int s0] S v (K_lw_isMade_62 N  S v p0 p1 p2 p3 p4 s0) (ρri S v) := by
  unfold K_lw_isMade_62
  refine sim_seg [(.istore 5, 0, 0, 0)] [] (q := 64) (L' := [some (.ref p0), some (.ref p1), some (.int p2), some (.int p3), some (.int p4), some (.int s0)]) (st' := []) (v1 := v) (by decide +kernel) rfl trivial ?_
  refine sim_seg [(.iload_n 3, 0, 0, 0), (.aload_n 0, 0, 0, 0), (.iload_n 2, 0, 0, 0)] [] (q := 67) (L' := [some (.ref p0), some (.ref p1), some (.int p2), some (.int p3), some (.int p4), some (.int s0)]) (st' := [.int p2, .ref p0, .int p3]) (v1 := v) (by decide +kernel) rfl trivial ?_
  refine sim_grd fun h4 => ?_
  refine sc_ri (pc3 := 70) (cf_V (idx := 177) (ci := 6) [.int p2] m_lw_value (by decide) ⟨by decide, by decide⟩ (List.mem_of_getElem? (i := 1037) (by decide +kernel)) rfl (Nat.le_of_ble_eq_true rfl) h4 (by decide +kernel) (Nat.le_of_ble_eq_true rfl) rfl) (ok_lw_value p0 p2 S v) rfl (fun x5 => ?_)
  refine sim_ne (o := 137) (tg := 207) (f := 73) (by decide +kernel) rfl rfl (fun _ => ?_) (fun _ => ?_)
  · refine sim_seg [(.aload_n 1, 0, 0, 0), (.iload 4, 0, 0, 0), (.iconst 0, 0, 0, 0)] [] (q := 77) (L' := [some (.ref p0), some (.ref p1), some (.int p2), some (.int p3), some (.int p4), some (.int s0)]) (st' := [.int (J 0), .int p4, .ref p1]) (v1 := v) (by decide +kernel) rfl trivial ?_
    refine sim_grd fun h6 => ?_
    refine sc_xi (pc3 := 80) (cf_V (idx := 180) (ci := 5) [.int p4, .int (J 0)] m_gc_measurement (by decide) ⟨by decide, by decide⟩ (List.mem_of_getElem? (i := 1042) (by decide +kernel)) rfl (Nat.le_of_ble_eq_true rfl) h6 (by decide +kernel) (Nat.le_of_ble_eq_true rfl) rfl) (ok_gc_measurement N p1 p4 (J 0) S v) rfl rfl (fun k0 b hb => by cases hb) (fun x7 => ?_)
    refine sim_seg [(.iload_n 2, 0, 0, 0)] [] (q := 81) (L' := [some (.ref p0), some (.ref p1), some (.int p2), some (.int p3), some (.int p4), some (.int s0)]) (st' := [.int p2, .int x7]) (v1 := v) (by decide +kernel) rfl trivial ?_
    refine sim_ne (o := 126) (tg := 207) (f := 84) (by decide +kernel) rfl rfl (fun _ => ?_) (fun _ => ?_)
    · refine sim_seg [(.aload_n 1, 0, 0, 0), (.iload 4, 0, 0, 0), (.iconst 1, 0, 0, 1)] [] (q := 88) (L' := [some (.ref p0), some (.ref p1), some (.int p2), some (.int p3), some (.int p4), some (.int s0)]) (st' := [.int (J 1), .int p4, .ref p1]) (v1 := v) (by decide +kernel) rfl trivial ?_
      refine sc_xi (pc3 := 91) (cf_V (idx := 180) (ci := 5) [.int p4, .int (J 1)] m_gc_measurement (by decide) ⟨by decide, by decide⟩ (List.mem_of_getElem? (i := 1042) (by decide +kernel)) rfl (Nat.le_of_ble_eq_true rfl) h6 (by decide +kernel) (Nat.le_of_ble_eq_true rfl) rfl) (ok_gc_measurement N p1 p4 (J 1) S v) rfl rfl (fun k0 b hb => by cases hb) (fun x8 => ?_)
      refine sim_seg [(.aload_n 0, 0, 0, 0), (.getfield 164, 6, 21, 0)] [] (q := 95) (L' := [some (.ref p0), some (.ref p1), some (.int p2), some (.int p3), some (.int p4), some (.int s0)]) (st' := [.int (gi v p0 21), .int x8]) (v1 := v) (by decide +kernel) rfl ⟨h4, trivial⟩ ?_
      refine sim_ne (o := 112) (tg := 207) (f := 98) (by decide +kernel) rfl rfl (fun _ => ?_) (fun _ => ?_)
      · refine sim_seg [(.aload_n 1, 0, 0, 0), (.iload 4, 0, 0, 0), (.iconst 2, 0, 0, 2)] [] (q := 102) (L' := [some (.ref p0), some (.ref p1), some (.int p2), some (.int p3), some (.int p4), some (.int s0)]) (st' := [.int (J 2), .int p4, .ref p1]) (v1 := v) (by decide +kernel) rfl trivial ?_
        refine sc_xi (pc3 := 105) (cf_V (idx := 180) (ci := 5) [.int p4, .int (J 2)] m_gc_measurement (by decide) ⟨by decide, by decide⟩ (List.mem_of_getElem? (i := 1042) (by decide +kernel)) rfl (Nat.le_of_ble_eq_true rfl) h6 (by decide +kernel) (Nat.le_of_ble_eq_true rfl) rfl) (ok_gc_measurement N p1 p4 (J 2) S v) rfl rfl (fun k0 b hb => by cases hb) (fun x9 => ?_)
        refine sim_seg [(.aload_n 0, 0, 0, 0), (.getfield 167, 6, 22, 0)] [] (q := 109) (L' := [some (.ref p0), some (.ref p1), some (.int p2), some (.int p3), some (.int p4), some (.int s0)]) (st' := [.int (gi v p0 22), .int x9]) (v1 := v) (by decide +kernel) rfl ⟨h4, trivial⟩ ?_
        refine sim_ne (o := 98) (tg := 207) (f := 112) (by decide +kernel) rfl rfl (fun _ => ?_) (fun _ => ?_)
        · refine sim_seg [(.aload_n 1, 0, 0, 0), (.iload 4, 0, 0, 0), (.iconst 3, 0, 0, 3)] [] (q := 116) (L' := [some (.ref p0), some (.ref p1), some (.int p2), some (.int p3), some (.int p4), some (.int s0)]) (st' := [.int (J 3), .int p4, .ref p1]) (v1 := v) (by decide +kernel) rfl trivial ?_
          refine sc_xi (pc3 := 119) (cf_V (idx := 180) (ci := 5) [.int p4, .int (J 3)] m_gc_measurement (by decide) ⟨by decide, by decide⟩ (List.mem_of_getElem? (i := 1042) (by decide +kernel)) rfl (Nat.le_of_ble_eq_true rfl) h6 (by decide +kernel) (Nat.le_of_ble_eq_true rfl) rfl) (ok_gc_measurement N p1 p4 (J 3) S v) rfl rfl (fun k0 b hb => by cases hb) (fun x10 => ?_)
          refine sim_seg [(.aload_n 0, 0, 0, 0), (.getfield 160, 6, 23, 0)] [] (q := 123) (L' := [some (.ref p0), some (.ref p1), some (.int p2), some (.int p3), some (.int p4), some (.int s0)]) (st' := [.int (gi v p0 23), .int x10]) (v1 := v) (by decide +kernel) rfl ⟨h4, trivial⟩ ?_
          refine sim_ne (o := 84) (tg := 207) (f := 126) (by decide +kernel) rfl rfl (fun _ => ?_) (fun _ => ?_)
          · refine sim_seg [(.aload_n 1, 0, 0, 0), (.iload 4, 0, 0, 0), (.iconst 4, 0, 0, 4)] [] (q := 130) (L' := [some (.ref p0), some (.ref p1), some (.int p2), some (.int p3), some (.int p4), some (.int s0)]) (st' := [.int (J 4), .int p4, .ref p1]) (v1 := v) (by decide +kernel) rfl trivial ?_
            refine sc_xi (pc3 := 133) (cf_V (idx := 180) (ci := 5) [.int p4, .int (J 4)] m_gc_measurement (by decide) ⟨by decide, by decide⟩ (List.mem_of_getElem? (i := 1042) (by decide +kernel)) rfl (Nat.le_of_ble_eq_true rfl) h6 (by decide +kernel) (Nat.le_of_ble_eq_true rfl) rfl) (ok_gc_measurement N p1 p4 (J 4) S v) rfl rfl (fun k0 b hb => by cases hb) (fun x11 => ?_)
            refine sim_seg [(.iload_n 3, 0, 0, 0)] [] (q := 134) (L' := [some (.ref p0), some (.ref p1), some (.int p2), some (.int p3), some (.int p4), some (.int s0)]) (st' := [.int p3, .int x11]) (v1 := v) (by decide +kernel) rfl trivial ?_
            refine sim_ne (o := 73) (tg := 207) (f := 137) (by decide +kernel) rfl rfl (fun _ => ?_) (fun _ => ?_)
            · refine sim_seg [(.iload 5, 0, 0, 0), (.iconst 4, 0, 0, 4)] [] (q := 140) (L' := [some (.ref p0), some (.ref p1), some (.int p2), some (.int p3), some (.int p4), some (.int s0)]) (st' := [.int (J 4), .int s0]) (v1 := v) (by decide +kernel) rfl trivial ?_
              refine sim_eq (o := 15) (tg := 155) (f := 143) (by decide +kernel) rfl rfl (fun _ => ?_) (fun _ => ?_)
              · exact sim_wk (L0 := [some (.ref p0), some (.ref p1), some (.int p2), none, some (.int p4), none]) ⟨rfl, rfl, rfl, rfl, trivial⟩ (sK_lw_isMade_155 N S v p0 p1 p2 p4)
              · refine sim_seg [(.aload_n 1, 0, 0, 0), (.iload 4, 0, 0, 0), (.iconst 5, 0, 0, 5)] [] (q := 147) (L' := [some (.ref p0), some (.ref p1), some (.int p2), some (.int p3), some (.int p4), some (.int s0)]) (st' := [.int (J 5), .int p4, .ref p1]) (v1 := v) (by decide +kernel) rfl trivial ?_
                refine sc_xi (pc3 := 150) (cf_V (idx := 180) (ci := 5) [.int p4, .int (J 5)] m_gc_measurement (by decide) ⟨by decide, by decide⟩ (List.mem_of_getElem? (i := 1042) (by decide +kernel)) rfl (Nat.le_of_ble_eq_true rfl) h6 (by decide +kernel) (Nat.le_of_ble_eq_true rfl) rfl) (ok_gc_measurement N p1 p4 (J 5) S v) rfl rfl (fun k0 b hb => by cases hb) (fun x20 => ?_)
                refine sim_seg [(.iload 5, 0, 0, 0)] [] (q := 152) (L' := [some (.ref p0), some (.ref p1), some (.int p2), some (.int p3), some (.int p4), some (.int s0)]) (st' := [.int s0, .int x20]) (v1 := v) (by decide +kernel) rfl trivial ?_
                refine sim_ne (o := 55) (tg := 207) (f := 155) (by decide +kernel) rfl rfl (fun _ => ?_) (fun _ => ?_)
                · exact sim_wk (L0 := [some (.ref p0), some (.ref p1), some (.int p2), none, some (.int p4), none]) ⟨rfl, rfl, rfl, rfl, trivial⟩ (sK_lw_isMade_155 N S v p0 p1 p2 p4)
                · refine sim_seg [(.iconst 0, 0, 0, 0)] [] (q := 208) (L' := [some (.ref p0), some (.ref p1), some (.int p2), some (.int p3), some (.int p4), some (.int s0)]) (st' := [.int (J 0)]) (v1 := v) (by decide +kernel) rfl trivial ?_
                  exact sim_iret (by decide +kernel) rfl (by decide) rfl
            · refine sim_seg [(.iconst 0, 0, 0, 0)] [] (q := 208) (L' := [some (.ref p0), some (.ref p1), some (.int p2), some (.int p3), some (.int p4), some (.int s0)]) (st' := [.int (J 0)]) (v1 := v) (by decide +kernel) rfl trivial ?_
              exact sim_iret (by decide +kernel) rfl (by decide) rfl
          · refine sim_seg [(.iconst 0, 0, 0, 0)] [] (q := 208) (L' := [some (.ref p0), some (.ref p1), some (.int p2), some (.int p3), some (.int p4), some (.int s0)]) (st' := [.int (J 0)]) (v1 := v) (by decide +kernel) rfl trivial ?_
            exact sim_iret (by decide +kernel) rfl (by decide) rfl
        · refine sim_seg [(.iconst 0, 0, 0, 0)] [] (q := 208) (L' := [some (.ref p0), some (.ref p1), some (.int p2), some (.int p3), some (.int p4), some (.int s0)]) (st' := [.int (J 0)]) (v1 := v) (by decide +kernel) rfl trivial ?_
          exact sim_iret (by decide +kernel) rfl (by decide) rfl
      · refine sim_seg [(.iconst 0, 0, 0, 0)] [] (q := 208) (L' := [some (.ref p0), some (.ref p1), some (.int p2), some (.int p3), some (.int p4), some (.int s0)]) (st' := [.int (J 0)]) (v1 := v) (by decide +kernel) rfl trivial ?_
        exact sim_iret (by decide +kernel) rfl (by decide) rfl
    · refine sim_seg [(.iconst 0, 0, 0, 0)] [] (q := 208) (L' := [some (.ref p0), some (.ref p1), some (.int p2), some (.int p3), some (.int p4), some (.int s0)]) (st' := [.int (J 0)]) (v1 := v) (by decide +kernel) rfl trivial ?_
      exact sim_iret (by decide +kernel) rfl (by decide) rfl
  · refine sim_seg [(.iconst 0, 0, 0, 0)] [] (q := 208) (L' := [some (.ref p0), some (.ref p1), some (.int p2), some (.int p3), some (.int p4), some (.int s0)]) (st' := [.int (J 0)]) (v1 := v) (by decide +kernel) rfl trivial ?_
    exact sim_iret (by decide +kernel) rfl (by decide) rfl
noncomputable def F_lw_isMade (N : Nat) (a0 : Nat) (a1 : Nat) (b2 : Int32) (b3 : Int32) (S : shp) (v : vl) : Option Int32 :=
  grd (kin S a1 = some (0, 5)) <| bx (F_gc_count a1 (J 7) S v) (fun _ => none) fun x2 => grd (kin S a0 = some (0, 6)) <| (if (J 999) < (gi v a0 23) then K_lw_isMade_62 N  S v a0 a1 b2 b3 (x2 - (J 1)) (J 4) else (if (J 99) < (gi v a0 23) then K_lw_isMade_62 N  S v a0 a1 b2 b3 (x2 - (J 1)) (J 3) else (if (J 9) < (gi v a0 23) then K_lw_isMade_62 N  S v a0 a1 b2 b3 (x2 - (J 1)) (J 2) else (if (J 0) < (gi v a0 23) then K_lw_isMade_62 N  S v a0 a1 b2 b3 (x2 - (J 1)) (J 1) else K_lw_isMade_62 N  S v a0 a1 b2 b3 (x2 - (J 1)) (J 0)))))
theorem ok_lw_isMade (N : Nat) (a0 : Nat) (a1 : Nat) (b2 : Int32) (b3 : Int32) (S : shp) (v : vl) : SimK B_lw_isMade 0 (entB (bN B_lw_isMade) [.ref a0, .ref a1, .int b2, .int b3]) [] S v (F_lw_isMade N a0 a1 b2 b3 S v) (ρri S v) := by
  show SimK B_lw_isMade 0 [some (.ref a0), some (.ref a1), some (.int b2), some (.int b3), none, none] [] S v (F_lw_isMade N a0 a1 b2 b3 S v) _
  unfold F_lw_isMade
  refine sim_seg [(.aload_n 1, 0, 0, 0), (.bipush 7, 0, 0, 7)] [] (q := 3) (L' := [some (.ref a0), some (.ref a1), some (.int b2), some (.int b3), none, none]) (st' := [.int (J 7), .ref a1]) (v1 := v) (by decide +kernel) rfl trivial ?_
  refine sim_grd fun h1 => ?_
  refine sc_xi (pc3 := 6) (cf_V (idx := 175) (ci := 5) [.int (J 7)] m_gc_count (by decide) ⟨by decide, by decide⟩ (List.mem_of_getElem? (i := 768) (by decide +kernel)) rfl (Nat.le_of_ble_eq_true rfl) h1 (by decide +kernel) (Nat.le_of_ble_eq_true rfl) rfl) (ok_gc_count a1 (J 7) S v) rfl rfl (fun k0 b hb => by cases hb) (fun x2 => ?_)
  refine sim_seg [(.iconst 1, 0, 0, 1), (.isub, 0, 0, 0), (.istore 4, 0, 0, 0)] [] (q := 10) (L' := [some (.ref a0), some (.ref a1), some (.int b2), some (.int b3), some (.int (x2 - (J 1))), none]) (st' := []) (v1 := v) (by decide +kernel) rfl trivial ?_
  refine sim_grd fun h3 => ?_
  refine sim_seg [(.aload_n 0, 0, 0, 0), (.getfield 160, 6, 23, 0), (.sipush 999, 0, 0, 999)] [] (q := 17) (L' := [some (.ref a0), some (.ref a1), some (.int b2), some (.int b3), some (.int (x2 - (J 1))), none]) (st' := [.int (J 999), .int (gi v a0 23)]) (v1 := v) (by decide +kernel) rfl ⟨h3, trivial⟩ ?_
  refine sim_le (o := 7) (tg := 24) (f := 20) (by decide +kernel) rfl rfl (fun _ => ?_) (fun _ => ?_)
  · refine sim_seg [(.iconst 4, 0, 0, 4), (.goto 41, 0, 0, 0)] [] (q := 62) (L' := [some (.ref a0), some (.ref a1), some (.int b2), some (.int b3), some (.int (x2 - (J 1))), none]) (st' := [.int (J 4)]) (v1 := v) (by decide +kernel) rfl trivial ?_
    exact sK_lw_isMade_62 N S v a0 a1 b2 b3 (x2 - (J 1)) (J 4)
  · refine sim_seg [(.aload_n 0, 0, 0, 0), (.getfield 160, 6, 23, 0), (.bipush 99, 0, 0, 99)] [] (q := 30) (L' := [some (.ref a0), some (.ref a1), some (.int b2), some (.int b3), some (.int (x2 - (J 1))), none]) (st' := [.int (J 99), .int (gi v a0 23)]) (v1 := v) (by decide +kernel) rfl ⟨h3, trivial⟩ ?_
    refine sim_le (o := 7) (tg := 37) (f := 33) (by decide +kernel) rfl rfl (fun _ => ?_) (fun _ => ?_)
    · refine sim_seg [(.iconst 3, 0, 0, 3), (.goto 28, 0, 0, 0)] [] (q := 62) (L' := [some (.ref a0), some (.ref a1), some (.int b2), some (.int b3), some (.int (x2 - (J 1))), none]) (st' := [.int (J 3)]) (v1 := v) (by decide +kernel) rfl trivial ?_
      exact sK_lw_isMade_62 N S v a0 a1 b2 b3 (x2 - (J 1)) (J 3)
    · refine sim_seg [(.aload_n 0, 0, 0, 0), (.getfield 160, 6, 23, 0), (.bipush 9, 0, 0, 9)] [] (q := 43) (L' := [some (.ref a0), some (.ref a1), some (.int b2), some (.int b3), some (.int (x2 - (J 1))), none]) (st' := [.int (J 9), .int (gi v a0 23)]) (v1 := v) (by decide +kernel) rfl ⟨h3, trivial⟩ ?_
      refine sim_le (o := 7) (tg := 50) (f := 46) (by decide +kernel) rfl rfl (fun _ => ?_) (fun _ => ?_)
      · refine sim_seg [(.iconst 2, 0, 0, 2), (.goto 15, 0, 0, 0)] [] (q := 62) (L' := [some (.ref a0), some (.ref a1), some (.int b2), some (.int b3), some (.int (x2 - (J 1))), none]) (st' := [.int (J 2)]) (v1 := v) (by decide +kernel) rfl trivial ?_
        exact sK_lw_isMade_62 N S v a0 a1 b2 b3 (x2 - (J 1)) (J 2)
      · refine sim_seg [(.aload_n 0, 0, 0, 0), (.getfield 160, 6, 23, 0)] [] (q := 54) (L' := [some (.ref a0), some (.ref a1), some (.int b2), some (.int b3), some (.int (x2 - (J 1))), none]) (st' := [.int (gi v a0 23)]) (v1 := v) (by decide +kernel) rfl ⟨h3, trivial⟩ ?_
        refine sim_le0 (o := 7) (tg := 61) (f := 57) (by decide +kernel) rfl rfl (fun _ => ?_) (fun _ => ?_)
        · refine sim_seg [(.iconst 1, 0, 0, 1), (.goto 4, 0, 0, 0)] [] (q := 62) (L' := [some (.ref a0), some (.ref a1), some (.int b2), some (.int b3), some (.int (x2 - (J 1))), none]) (st' := [.int (J 1)]) (v1 := v) (by decide +kernel) rfl trivial ?_
          exact sK_lw_isMade_62 N S v a0 a1 b2 b3 (x2 - (J 1)) (J 1)
        · refine sim_seg [(.iconst 0, 0, 0, 0)] [] (q := 62) (L' := [some (.ref a0), some (.ref a1), some (.int b2), some (.int b3), some (.int (x2 - (J 1))), none]) (st' := [.int (J 0)]) (v1 := v) (by decide +kernel) rfl trivial ?_
          exact sK_lw_isMade_62 N S v a0 a1 b2 b3 (x2 - (J 1)) (J 0)
def B_lw_waits : bd := (⟨"GateCounterLaw", "waits", "(I)V"⟩, method_10_code, 3, none, [], 6, 3)
theorem m_lw_waits : mV B_lw_waits 6 1 := ⟨⟨⟨by decide +kernel, Or.inl rfl⟩, rfl, (List.mem_of_getElem? (i := 879) (by decide +kernel)), by decide +kernel, (List.mem_of_getElem? (i := 44) (by decide +kernel)), ⟨by decide, by decide⟩, by decide⟩, rfl, (by unfold nar; decide +kernel), (List.mem_of_getElem? (i := 878) (by decide +kernel)), rfl, (List.mem_of_getElem? (i := 23) (by decide +kernel))⟩
noncomputable def Y_lw_waits_7 (N : Nat)  (i7 : vl → Nat → Int32 → Int32 → Option vl) (S : shp) (v : vl) (p0 : Nat) (p1 : Int32) (p2 : Int32) : Option vl :=
  (if p2 = p1 then grd (kin S p0 = some (0, 6)) <| lt (si (si v p0 21 (gi v p0 4)) p0 23 (J 0)) fun w5 => some (w5) else grd (kin S p0 = some (0, 6)) <| (F_lw_comes p0 (J 2000000) S v).bind fun (x7, w8) => i7 w8 p0 p1 x7)
noncomputable def K_lw_waits_7 (N : Nat)  (n : Nat) (S : shp) : vl → Nat → Int32 → Int32 → Option vl :=
  Nat.rec (motive := fun _ => vl → Nat → Int32 → Int32 → Option vl) (fun _ _ _ _ => none) (fun _ i => Y_lw_waits_7 N  i S) n
theorem sY_lw_waits_7 (N : Nat)  (i7 : vl → Nat → Int32 → Int32 → Option vl) (S : shp)  (j7 : ∀ (v : vl) (p0 : Nat) (p1 : Int32) (p2 : Int32), SimK B_lw_waits 7 [some (.ref p0), some (.int p1), some (.int p2)] [] S v (i7 v p0 p1 p2) (ρpv S)) (v : vl) (p0 : Nat) (p1 : Int32) (p2 : Int32) : SimK B_lw_waits 7 [some (.ref p0), some (.int p1), some (.int p2)] [] S v (Y_lw_waits_7 N  i7 S v p0 p1 p2) (ρpv S) := by
  unfold Y_lw_waits_7
  refine sim_seg [(.iload_n 2, 0, 0, 0), (.iload_n 1, 0, 0, 0)] [] (q := 9) (L' := [some (.ref p0), some (.int p1), some (.int p2)]) (st' := [.int p1, .int p2]) (v1 := v) (by decide +kernel) rfl trivial ?_
  refine sim_eq (o := 13) (tg := 22) (f := 12) (by decide +kernel) rfl rfl (fun _ => ?_) (fun _ => ?_)
  · refine sim_grd fun h4 => ?_
    refine sim_seg [(.aload_n 0, 0, 0, 0), (.aload_n 0, 0, 0, 0), (.getfield 138, 6, 4, 0), (.putfield 164, 6, 21, 0), (.aload_n 0, 0, 0, 0), (.iconst 0, 0, 0, 0), (.putfield 160, 6, 23, 0)] [] (q := 35) (L' := [some (.ref p0), some (.int p1), some (.int p2)]) (st' := []) (v1 := (si (si v p0 21 (gi v p0 4)) p0 23 (J 0))) (by decide +kernel) rfl ⟨h4, h4, h4, trivial⟩ ?_
    refine sim_lt (x := (si (si v p0 21 (gi v p0 4)) p0 23 (J 0))) ?_
    generalize (si (si v p0 21 (gi v p0 4)) p0 23 (J 0)) = w5
    exact sim_vret (by decide +kernel) rfl rfl
  · refine sim_seg [(.aload_n 0, 0, 0, 0), (.ldc 163, 0, 0, 2000000)] [] (q := 15) (L' := [some (.ref p0), some (.int p1), some (.int p2)]) (st' := [.int (J 2000000), .ref p0]) (v1 := v) (by decide +kernel) rfl trivial ?_
    refine sim_grd fun h6 => ?_
    refine sc_pi (pc3 := 18) (cf_V (idx := 156) (ci := 6) [.int (J 2000000)] m_lw_comes (by decide) ⟨by decide, by decide⟩ (List.mem_of_getElem? (i := 881) (by decide +kernel)) rfl (Nat.le_of_ble_eq_true rfl) h6 (by decide +kernel) (Nat.le_of_ble_eq_true rfl) rfl) (ok_lw_comes p0 (J 2000000) S v) rfl (fun x7 w8 => ?_)
    refine sim_seg [(.istore_n 2, 0, 0, 0)] [] (q := 19) (L' := [some (.ref p0), some (.int p1), some (.int x7)]) (st' := []) (v1 := w8) (by decide +kernel) rfl trivial ?_
    refine sim_seg [(.goto (-12), 0, 0, 0)] [] (q := 7) (L' := [some (.ref p0), some (.int p1), some (.int x7)]) (st' := []) (v1 := w8) (by decide +kernel) rfl trivial ?_
    exact j7 w8 p0 p1 x7
theorem sR_lw_waits_7 (N : Nat)  (S : shp)  (n : Nat) : ∀ (v : vl) (p0 : Nat) (p1 : Int32) (p2 : Int32), SimK B_lw_waits 7 [some (.ref p0), some (.int p1), some (.int p2)] [] S v (K_lw_waits_7 N  n S v p0 p1 p2) (ρpv S) := by
  induction n with
  | zero => intro v p0 p1 p2; exact sim_none
  | succ k ih => intro v p0 p1 p2; exact sY_lw_waits_7 N   _ S  ih v p0 p1 p2
theorem sK_lw_waits_7 (N : Nat)  (n : Nat) (S : shp) (v : vl) (p0 : Nat) (p1 : Int32) (p2 : Int32) : SimK B_lw_waits 7 [some (.ref p0), some (.int p1), some (.int p2)] [] S v (K_lw_waits_7 N  n S v p0 p1 p2) (ρpv S) := sR_lw_waits_7 N   S  n  v p0 p1 p2
noncomputable def F_lw_waits (N : Nat) (a0 : Nat) (b1 : Int32) (S : shp) (v : vl) : Option vl :=
  grd (kin S a0 = some (0, 6)) <| (F_lw_comes a0 (J 2000000) S v).bind fun (x2, w3) => K_lw_waits_7 N  N S w3 a0 b1 x2
theorem ok_lw_waits (N : Nat) (a0 : Nat) (b1 : Int32) (S : shp) (v : vl) : SimK B_lw_waits 0 (entB (bN B_lw_waits) [.ref a0, .int b1]) [] S v (F_lw_waits N a0 b1 S v) (ρpv S) := by
  show SimK B_lw_waits 0 [some (.ref a0), some (.int b1), none] [] S v (F_lw_waits N a0 b1 S v) _
  unfold F_lw_waits
  refine sim_seg [(.aload_n 0, 0, 0, 0), (.ldc 163, 0, 0, 2000000)] [] (q := 3) (L' := [some (.ref a0), some (.int b1), none]) (st' := [.int (J 2000000), .ref a0]) (v1 := v) (by decide +kernel) rfl trivial ?_
  refine sim_grd fun h1 => ?_
  refine sc_pi (pc3 := 6) (cf_V (idx := 156) (ci := 6) [.int (J 2000000)] m_lw_comes (by decide) ⟨by decide, by decide⟩ (List.mem_of_getElem? (i := 881) (by decide +kernel)) rfl (Nat.le_of_ble_eq_true rfl) h1 (by decide +kernel) (Nat.le_of_ble_eq_true rfl) rfl) (ok_lw_comes a0 (J 2000000) S v) rfl (fun x2 w3 => ?_)
  refine sim_seg [(.istore_n 2, 0, 0, 0)] [] (q := 7) (L' := [some (.ref a0), some (.int b1), some (.int x2)]) (st' := []) (v1 := w3) (by decide +kernel) rfl trivial ?_
  exact sK_lw_waits_7 N N S w3 a0 b1 x2
def B_lw_measuresPeriod : bd := (⟨"GateCounterLaw", "measuresPeriod", "(LGateCounter;)Z"⟩, method_15_code, 4, (some .boolean), [], 6, 10)
theorem m_lw_measuresPeriod : mV B_lw_measuresPeriod 6 1 := ⟨⟨⟨by decide +kernel, Or.inl rfl⟩, rfl, (List.mem_of_getElem? (i := 1080) (by decide +kernel)), by decide +kernel, (List.mem_of_getElem? (i := 44) (by decide +kernel)), ⟨by decide, by decide⟩, by decide⟩, rfl, (by unfold nar; decide +kernel), (List.mem_of_getElem? (i := 1079) (by decide +kernel)), rfl, (List.mem_of_getElem? (i := 41) (by decide +kernel))⟩
noncomputable def F_lw_measuresPeriod (N : Nat) (a0 : Nat) (a1 : Nat) (S : shp) (v : vl) : Option (Int32 × shp × vl) :=
  grd (kin S a0 = some (0, 6)) <| grd (kin S a1 = some (0, 5)) <| (F_gc_period N a1 S v).bind fun (x3, S4, w5) => (if x3 = (J (-1)) then (F_gc_reason a1 S4 w5).bind fun x7 => (if x7 = (J 3) then bx (F_gc_count a1 (J 0) S4 w5) (fun _ => none) fun x8 => (if x8 = (gi v a0 4) then some (((J 1), S4, w5)) else some (((J 0), S4, w5))) else some (((J 0), S4, w5))) else (F_lw_waits N a0 (J 4) S4 w5).bind fun w9 => (F_lw_counts N a0 (J 4) (J 2) (gi w9 a0 11) S4 w9).bind fun w10 => (if (J 0) < (gi w10 a0 23) then (F_lw_isMade N a0 a1 (J 1) x3 S4 w10).bind fun x11 => (if x11 = (J 0) then some (((J 0), S4, w10)) else some (((J 1), S4, w10))) else some (((J 0), S4, w10))))
theorem ok_lw_measuresPeriod (N : Nat) (a0 : Nat) (a1 : Nat) (S : shp) (v : vl) : SimK B_lw_measuresPeriod 0 (entB (bN B_lw_measuresPeriod) [.ref a0, .ref a1]) [] S v (F_lw_measuresPeriod N a0 a1 S v) (ρgi) := by
  show SimK B_lw_measuresPeriod 0 [some (.ref a0), some (.ref a1), none, none] [] S v (F_lw_measuresPeriod N a0 a1 S v) _
  unfold F_lw_measuresPeriod
  refine sim_grd fun h1 => ?_
  refine sim_seg [(.aload_n 0, 0, 0, 0), (.getfield 138, 6, 4, 0), (.istore_n 2, 0, 0, 0)] [] (q := 5) (L' := [some (.ref a0), some (.ref a1), some (.int (gi v a0 4)), none]) (st' := []) (v1 := v) (by decide +kernel) rfl ⟨h1, trivial⟩ ?_
  refine sim_seg [(.aload_n 1, 0, 0, 0)] [] (q := 6) (L' := [some (.ref a0), some (.ref a1), some (.int (gi v a0 4)), none]) (st' := [.ref a1]) (v1 := v) (by decide +kernel) rfl trivial ?_
  refine sim_grd fun h2 => ?_
  refine sc_gi (pc3 := 9) (cf_V (idx := 200) (ci := 5) [] m_gc_period (by decide) ⟨by decide, by decide⟩ (List.mem_of_getElem? (i := 1081) (by decide +kernel)) rfl (Nat.le_of_ble_eq_true rfl) h2 (by decide +kernel) (Nat.le_of_ble_eq_true rfl) rfl) (ok_gc_period N a1 S v) rfl (fun x3 S4 w5 h6 => ?_)
  refine sim_seg [(.istore_n 3, 0, 0, 0)] [] (q := 10) (L' := [some (.ref a0), some (.ref a1), some (.int (gi v a0 4)), some (.int x3)]) (st' := []) (v1 := w5) (by decide +kernel) rfl trivial ?_
  refine sim_seg [(.iload_n 3, 0, 0, 0), (.iconst (-1), 0, 0, (-1))] [] (q := 12) (L' := [some (.ref a0), some (.ref a1), some (.int (gi v a0 4)), some (.int x3)]) (st' := [.int (J (-1)), .int x3]) (v1 := w5) (by decide +kernel) rfl trivial ?_
  refine sim_ne (o := 26) (tg := 38) (f := 15) (by decide +kernel) rfl rfl (fun _ => ?_) (fun _ => ?_)
  · refine sim_seg [(.aload_n 1, 0, 0, 0)] [] (q := 16) (L' := [some (.ref a0), some (.ref a1), some (.int (gi v a0 4)), some (.int x3)]) (st' := [.ref a1]) (v1 := w5) (by decide +kernel) rfl trivial ?_
    refine sc_ri (pc3 := 19) (cf_V (idx := 183) (ci := 5) [] m_gc_reason (by decide) ⟨by decide, by decide⟩ (List.mem_of_getElem? (i := 1073) (by decide +kernel)) rfl (Nat.le_of_ble_eq_true rfl) (h6.2.2.2.2 _ _ h2) (by decide +kernel) (Nat.le_of_ble_eq_true rfl) rfl) (ok_gc_reason a1 S4 w5) rfl (fun x7 => ?_)
    refine sim_seg [(.iconst 3, 0, 0, 3)] [] (q := 20) (L' := [some (.ref a0), some (.ref a1), some (.int (gi v a0 4)), some (.int x3)]) (st' := [.int (J 3), .int x7]) (v1 := w5) (by decide +kernel) rfl trivial ?_
    refine sim_ne (o := 16) (tg := 36) (f := 23) (by decide +kernel) rfl rfl (fun _ => ?_) (fun _ => ?_)
    · refine sim_seg [(.aload_n 1, 0, 0, 0), (.iconst 0, 0, 0, 0)] [] (q := 25) (L' := [some (.ref a0), some (.ref a1), some (.int (gi v a0 4)), some (.int x3)]) (st' := [.int (J 0), .ref a1]) (v1 := w5) (by decide +kernel) rfl trivial ?_
      refine sc_xi (pc3 := 28) (cf_V (idx := 175) (ci := 5) [.int (J 0)] m_gc_count (by decide) ⟨by decide, by decide⟩ (List.mem_of_getElem? (i := 768) (by decide +kernel)) rfl (Nat.le_of_ble_eq_true rfl) (h6.2.2.2.2 _ _ h2) (by decide +kernel) (Nat.le_of_ble_eq_true rfl) rfl) (ok_gc_count a1 (J 0) S4 w5) rfl rfl (fun k0 b hb => by cases hb) (fun x8 => ?_)
      refine sim_seg [(.iload_n 2, 0, 0, 0)] [] (q := 29) (L' := [some (.ref a0), some (.ref a1), some (.int (gi v a0 4)), some (.int x3)]) (st' := [.int (gi v a0 4), .int x8]) (v1 := w5) (by decide +kernel) rfl trivial ?_
      refine sim_ne (o := 7) (tg := 36) (f := 32) (by decide +kernel) rfl rfl (fun _ => ?_) (fun _ => ?_)
      · refine sim_seg [(.iconst 1, 0, 0, 1), (.goto 4, 0, 0, 0)] [] (q := 37) (L' := [some (.ref a0), some (.ref a1), some (.int (gi v a0 4)), some (.int x3)]) (st' := [.int (J 1)]) (v1 := w5) (by decide +kernel) rfl trivial ?_
        exact sim_iret (by decide +kernel) rfl (by decide) rfl
      · refine sim_seg [(.iconst 0, 0, 0, 0)] [] (q := 37) (L' := [some (.ref a0), some (.ref a1), some (.int (gi v a0 4)), some (.int x3)]) (st' := [.int (J 0)]) (v1 := w5) (by decide +kernel) rfl trivial ?_
        exact sim_iret (by decide +kernel) rfl (by decide) rfl
    · refine sim_seg [(.iconst 0, 0, 0, 0)] [] (q := 37) (L' := [some (.ref a0), some (.ref a1), some (.int (gi v a0 4)), some (.int x3)]) (st' := [.int (J 0)]) (v1 := w5) (by decide +kernel) rfl trivial ?_
      exact sim_iret (by decide +kernel) rfl (by decide) rfl
  · refine sim_seg [(.aload_n 0, 0, 0, 0), (.iconst 4, 0, 0, 4)] [] (q := 40) (L' := [some (.ref a0), some (.ref a1), some (.int (gi v a0 4)), some (.int x3)]) (st' := [.int (J 4), .ref a0]) (v1 := w5) (by decide +kernel) rfl trivial ?_
    refine sc_pv (pc3 := 43) (cf_V (idx := 202) (ci := 6) [.int (J 4)] m_lw_waits (by decide) ⟨by decide, by decide⟩ (List.mem_of_getElem? (i := 876) (by decide +kernel)) rfl (Nat.le_of_ble_eq_true rfl) (h6.2.2.2.2 _ _ h1) (by decide +kernel) (Nat.le_of_ble_eq_true rfl) rfl) (ok_lw_waits N a0 (J 4) S4 w5) rfl (fun w9 => ?_)
    refine sim_seg [(.aload_n 0, 0, 0, 0), (.iconst 4, 0, 0, 4), (.iconst 2, 0, 0, 2), (.aload_n 0, 0, 0, 0), (.getfield 67, 6, 11, 0)] [] (q := 50) (L' := [some (.ref a0), some (.ref a1), some (.int (gi v a0 4)), some (.int x3)]) (st' := [.int (gi w9 a0 11), .int (J 2), .int (J 4), .ref a0]) (v1 := w9) (by decide +kernel) rfl ⟨(h6.2.2.2.2 _ _ h1), trivial⟩ ?_
    refine sc_pv (pc3 := 53) (cf_V (idx := 206) (ci := 6) [.int (J 4), .int (J 2), .int (gi w9 a0 11)] m_lw_counts (by decide) ⟨by decide, by decide⟩ (List.mem_of_getElem? (i := 891) (by decide +kernel)) rfl (Nat.le_of_ble_eq_true rfl) (h6.2.2.2.2 _ _ h1) (by decide +kernel) (Nat.le_of_ble_eq_true rfl) rfl) (ok_lw_counts N a0 (J 4) (J 2) (gi w9 a0 11) S4 w9) rfl (fun w10 => ?_)
    refine sim_seg [(.aload_n 0, 0, 0, 0), (.getfield 160, 6, 23, 0)] [] (q := 57) (L' := [some (.ref a0), some (.ref a1), some (.int (gi v a0 4)), some (.int x3)]) (st' := [.int (gi w10 a0 23)]) (v1 := w10) (by decide +kernel) rfl ⟨(h6.2.2.2.2 _ _ h1), trivial⟩ ?_
    refine sim_le0 (o := 17) (tg := 74) (f := 60) (by decide +kernel) rfl rfl (fun _ => ?_) (fun _ => ?_)
    · refine sim_seg [(.aload_n 0, 0, 0, 0), (.aload_n 1, 0, 0, 0), (.iconst 1, 0, 0, 1), (.iload_n 3, 0, 0, 0)] [] (q := 64) (L' := [some (.ref a0), some (.ref a1), some (.int (gi v a0 4)), some (.int x3)]) (st' := [.int x3, .int (J 1), .ref a1, .ref a0]) (v1 := w10) (by decide +kernel) rfl trivial ?_
      refine sc_ri (pc3 := 67) (cf_V (idx := 210) (ci := 6) [.ref a1, .int (J 1), .int x3] m_lw_isMade (by decide) ⟨by decide, by decide⟩ (List.mem_of_getElem? (i := 1033) (by decide +kernel)) rfl (Nat.le_of_ble_eq_true rfl) (h6.2.2.2.2 _ _ h1) (by decide +kernel) (Nat.le_of_ble_eq_true rfl) rfl) (ok_lw_isMade N a0 a1 (J 1) x3 S4 w10) rfl (fun x11 => ?_)
      refine sim_eq0 (o := 7) (tg := 74) (f := 70) (by decide +kernel) rfl rfl (fun _ => ?_) (fun _ => ?_)
      · refine sim_seg [(.iconst 0, 0, 0, 0)] [] (q := 75) (L' := [some (.ref a0), some (.ref a1), some (.int (gi v a0 4)), some (.int x3)]) (st' := [.int (J 0)]) (v1 := w10) (by decide +kernel) rfl trivial ?_
        exact sim_iret (by decide +kernel) rfl (by decide) rfl
      · refine sim_seg [(.iconst 1, 0, 0, 1), (.goto 4, 0, 0, 0)] [] (q := 75) (L' := [some (.ref a0), some (.ref a1), some (.int (gi v a0 4)), some (.int x3)]) (st' := [.int (J 1)]) (v1 := w10) (by decide +kernel) rfl trivial ?_
        exact sim_iret (by decide +kernel) rfl (by decide) rfl
    · refine sim_seg [(.iconst 0, 0, 0, 0)] [] (q := 75) (L' := [some (.ref a0), some (.ref a1), some (.int (gi v a0 4)), some (.int x3)]) (st' := [.int (J 0)]) (v1 := w10) (by decide +kernel) rfl trivial ?_
      exact sim_iret (by decide +kernel) rfl (by decide) rfl
def B_lw_act : bd := (⟨"GateCounterLaw", "act", "(LGateCounter;I)Z"⟩, method_16_code, 4, (some .boolean), [], 6, 11)
theorem m_lw_act : mV B_lw_act 6 2 := ⟨⟨⟨by decide +kernel, Or.inl rfl⟩, rfl, (List.mem_of_getElem? (i := 875) (by decide +kernel)), by decide +kernel, (List.mem_of_getElem? (i := 44) (by decide +kernel)), ⟨by decide, by decide⟩, by decide⟩, rfl, (by unfold nar; decide +kernel), (List.mem_of_getElem? (i := 874) (by decide +kernel)), rfl, (List.mem_of_getElem? (i := 22) (by decide +kernel))⟩
noncomputable def K_lw_act_48 (N : Nat)  (S : shp) (v : vl) (p0 : Nat) (p1 : Nat) : Option (Int32 × shp × vl) :=
  grd (kin S p0 = some (0, 6)) <| (F_lw_waits N p0 (J 2) S v).bind fun w3 => (F_lw_counts N p0 (J 2) (J 4) (gi w3 p0 10) S w3).bind fun w4 => grd (kin S p1 = some (0, 5)) <| (F_gc_gate N p1 S w4).bind fun (x6, S7, w8) => (F_lw_isMade N p0 p1 (J 0) x6 S7 w8).bind fun x10 => grd (narrow .boolean (.int x10) = .int x10) <| some ((x10, S7, w8))
theorem sK_lw_act_48 (N : Nat)   (S : shp) (v : vl) (p0 : Nat) (p1 : Nat) : SimK B_lw_act 48 [some (.ref p0), some (.ref p1), none, none] [] S v (K_lw_act_48 N  S v p0 p1) (ρgi) := by
  unfold K_lw_act_48
  refine sim_seg [(.aload_n 0, 0, 0, 0), (.iconst 2, 0, 0, 2)] [] (q := 50) (L' := [some (.ref p0), some (.ref p1), none, none]) (st' := [.int (J 2), .ref p0]) (v1 := v) (by decide +kernel) rfl trivial ?_
  refine sim_grd fun h2 => ?_
  refine sc_pv (pc3 := 53) (cf_V (idx := 202) (ci := 6) [.int (J 2)] m_lw_waits (by decide) ⟨by decide, by decide⟩ (List.mem_of_getElem? (i := 876) (by decide +kernel)) rfl (Nat.le_of_ble_eq_true rfl) h2 (by decide +kernel) (Nat.le_of_ble_eq_true rfl) rfl) (ok_lw_waits N p0 (J 2) S v) rfl (fun w3 => ?_)
  refine sim_seg [(.aload_n 0, 0, 0, 0), (.iconst 2, 0, 0, 2), (.iconst 4, 0, 0, 4), (.aload_n 0, 0, 0, 0), (.getfield 64, 6, 10, 0)] [] (q := 60) (L' := [some (.ref p0), some (.ref p1), none, none]) (st' := [.int (gi w3 p0 10), .int (J 4), .int (J 2), .ref p0]) (v1 := w3) (by decide +kernel) rfl ⟨h2, trivial⟩ ?_
  refine sc_pv (pc3 := 63) (cf_V (idx := 206) (ci := 6) [.int (J 2), .int (J 4), .int (gi w3 p0 10)] m_lw_counts (by decide) ⟨by decide, by decide⟩ (List.mem_of_getElem? (i := 891) (by decide +kernel)) rfl (Nat.le_of_ble_eq_true rfl) h2 (by decide +kernel) (Nat.le_of_ble_eq_true rfl) rfl) (ok_lw_counts N p0 (J 2) (J 4) (gi w3 p0 10) S w3) rfl (fun w4 => ?_)
  refine sim_seg [(.aload_n 0, 0, 0, 0), (.aload_n 1, 0, 0, 0), (.iconst 0, 0, 0, 0), (.aload_n 1, 0, 0, 0)] [] (q := 67) (L' := [some (.ref p0), some (.ref p1), none, none]) (st' := [.ref p1, .int (J 0), .ref p1, .ref p0]) (v1 := w4) (by decide +kernel) rfl trivial ?_
  refine sim_grd fun h5 => ?_
  refine sc_gi (pc3 := 70) (cf_V (idx := 214) (ci := 5) [] m_gc_gate (by decide) ⟨by decide, by decide⟩ (List.mem_of_getElem? (i := 895) (by decide +kernel)) rfl (Nat.le_of_ble_eq_true rfl) h5 (by decide +kernel) (Nat.le_of_ble_eq_true rfl) rfl) (ok_gc_gate N p1 S w4) rfl (fun x6 S7 w8 h9 => ?_)
  refine sc_ri (pc3 := 73) (cf_V (idx := 210) (ci := 6) [.ref p1, .int (J 0), .int x6] m_lw_isMade (by decide) ⟨by decide, by decide⟩ (List.mem_of_getElem? (i := 1033) (by decide +kernel)) rfl (Nat.le_of_ble_eq_true rfl) (h9.2.2.2.2 _ _ h2) (by decide +kernel) (Nat.le_of_ble_eq_true rfl) rfl) (ok_lw_isMade N p0 p1 (J 0) x6 S7 w8) rfl (fun x10 => ?_)
  refine sim_grd fun h11 => ?_
  exact sim_iret (by decide +kernel) rfl h11 rfl
noncomputable def K_lw_act_74 (N : Nat)  (S : shp) (v : vl) (p0 : Nat) (p1 : Nat) : Option (Int32 × shp × vl) :=
  grd (kin S p0 = some (0, 6)) <| (F_lw_measuresPeriod N p0 p1 S v).bind fun (x14, S15, w16) => grd (narrow .boolean (.int x14) = .int x14) <| some ((x14, S15, w16))
theorem sK_lw_act_74 (N : Nat)   (S : shp) (v : vl) (p0 : Nat) (p1 : Nat) : SimK B_lw_act 74 [some (.ref p0), some (.ref p1), none, none] [] S v (K_lw_act_74 N  S v p0 p1) (ρgi) := by
  unfold K_lw_act_74
  refine sim_seg [(.aload_n 0, 0, 0, 0), (.aload_n 1, 0, 0, 0)] [] (q := 76) (L' := [some (.ref p0), some (.ref p1), none, none]) (st' := [.ref p1, .ref p0]) (v1 := v) (by decide +kernel) rfl trivial ?_
  refine sim_grd fun h13 => ?_
  refine sc_gi (pc3 := 79) (cf_V (idx := 216) (ci := 6) [.ref p1] m_lw_measuresPeriod (by decide) ⟨by decide, by decide⟩ (List.mem_of_getElem? (i := 1077) (by decide +kernel)) rfl (Nat.le_of_ble_eq_true rfl) h13 (by decide +kernel) (Nat.le_of_ble_eq_true rfl) rfl) (ok_lw_measuresPeriod N p0 p1 S v) rfl (fun x14 S15 w16 h17 => ?_)
  refine sim_grd fun h18 => ?_
  exact sim_iret (by decide +kernel) rfl h18 rfl
noncomputable def K_lw_act_80 (N : Nat)  (S : shp) (v : vl) (p0 : Nat) (p1 : Nat) (p2 : Int32) : Option (Int32 × shp × vl) :=
  grd (kin S p0 = some (0, 6)) <| (F_lw_bits p2 (J 3) (J 9) S v).bind fun x21 => (F_lw_goes N p0 (((gi v p0 4) + (J 1)) + x21) S v).bind fun w22 => (F_lw_bits p2 (J 3) (J 9) S w22).bind fun x23 => grd (kin S p1 = some (0, 5)) <| bx (F_gc_run N p1 ((J 1) + x23) S w22) (fun _ => none) fun (x25, S26, w27) => (if x25 = ((gi w27 p0 6) - (gi v p0 6)) then some (((J 1), S26, w27)) else some (((J 0), S26, w27)))
theorem sK_lw_act_80 (N : Nat)   (S : shp) (v : vl) (p0 : Nat) (p1 : Nat) (p2 : Int32) : SimK B_lw_act 80 [some (.ref p0), some (.ref p1), some (.int p2), none] [] S v (K_lw_act_80 N  S v p0 p1 p2) (ρgi) := by
  unfold K_lw_act_80
  refine sim_grd fun h20 => ?_
  refine sim_seg [(.aload_n 0, 0, 0, 0), (.getfield 147, 6, 6, 0), (.istore_n 3, 0, 0, 0)] [] (q := 85) (L' := [some (.ref p0), some (.ref p1), some (.int p2), some (.int (gi v p0 6))]) (st' := []) (v1 := v) (by decide +kernel) rfl ⟨h20, trivial⟩ ?_
  refine sim_seg [(.aload_n 0, 0, 0, 0), (.aload_n 0, 0, 0, 0), (.getfield 138, 6, 4, 0), (.iconst 1, 0, 0, 1), (.iadd, 0, 0, 0), (.iload_n 2, 0, 0, 0), (.iconst 3, 0, 0, 3), (.bipush 9, 0, 0, 9)] [] (q := 96) (L' := [some (.ref p0), some (.ref p1), some (.int p2), some (.int (gi v p0 6))]) (st' := [.int (J 9), .int (J 3), .int p2, .int ((gi v p0 4) + (J 1)), .ref p0]) (v1 := v) (by decide +kernel) rfl ⟨h20, trivial⟩ ?_
  refine sc_ri (pc3 := 99) (cf_S (idx := 47) [.int p2, .int (J 3), .int (J 9)] m_lw_bits ⟨by decide, by decide⟩ (List.mem_of_getElem? (i := 541) (by decide +kernel)) rfl (Nat.le_of_ble_eq_true rfl) (by decide +kernel) (Nat.le_of_ble_eq_true rfl) rfl) (ok_lw_bits p2 (J 3) (J 9) S v) rfl (fun x21 => ?_)
  refine sim_seg [(.iadd, 0, 0, 0)] [] (q := 100) (L' := [some (.ref p0), some (.ref p1), some (.int p2), some (.int (gi v p0 6))]) (st' := [.int (((gi v p0 4) + (J 1)) + x21), .ref p0]) (v1 := v) (by decide +kernel) rfl trivial ?_
  refine sc_pv (pc3 := 103) (cf_V (idx := 220) (ci := 6) [.int (((gi v p0 4) + (J 1)) + x21)] m_lw_goes (by decide) ⟨by decide, by decide⟩ (List.mem_of_getElem? (i := 1119) (by decide +kernel)) rfl (Nat.le_of_ble_eq_true rfl) h20 (by decide +kernel) (Nat.le_of_ble_eq_true rfl) rfl) (ok_lw_goes N p0 (((gi v p0 4) + (J 1)) + x21) S v) rfl (fun w22 => ?_)
  refine sim_seg [(.aload_n 1, 0, 0, 0), (.iconst 1, 0, 0, 1), (.iload_n 2, 0, 0, 0), (.iconst 3, 0, 0, 3), (.bipush 9, 0, 0, 9)] [] (q := 109) (L' := [some (.ref p0), some (.ref p1), some (.int p2), some (.int (gi v p0 6))]) (st' := [.int (J 9), .int (J 3), .int p2, .int (J 1), .ref p1]) (v1 := w22) (by decide +kernel) rfl trivial ?_
  refine sc_ri (pc3 := 112) (cf_S (idx := 47) [.int p2, .int (J 3), .int (J 9)] m_lw_bits ⟨by decide, by decide⟩ (List.mem_of_getElem? (i := 541) (by decide +kernel)) rfl (Nat.le_of_ble_eq_true rfl) (by decide +kernel) (Nat.le_of_ble_eq_true rfl) rfl) (ok_lw_bits p2 (J 3) (J 9) S w22) rfl (fun x23 => ?_)
  refine sim_seg [(.iadd, 0, 0, 0)] [] (q := 113) (L' := [some (.ref p0), some (.ref p1), some (.int p2), some (.int (gi v p0 6))]) (st' := [.int ((J 1) + x23), .ref p1]) (v1 := w22) (by decide +kernel) rfl trivial ?_
  refine sim_grd fun h24 => ?_
  refine sc_zi (pc3 := 116) (cf_V (idx := 223) (ci := 5) [.int ((J 1) + x23)] m_gc_run (by decide) ⟨by decide, by decide⟩ (List.mem_of_getElem? (i := 1123) (by decide +kernel)) rfl (Nat.le_of_ble_eq_true rfl) h24 (by decide +kernel) (Nat.le_of_ble_eq_true rfl) rfl) (ok_gc_run N p1 ((J 1) + x23) S w22) rfl rfl (fun k0 b hb => by cases hb) (fun x25 S26 w27 h28 => ?_)
  refine sim_seg [(.aload_n 0, 0, 0, 0), (.getfield 147, 6, 6, 0), (.iload_n 3, 0, 0, 0), (.isub, 0, 0, 0)] [] (q := 122) (L' := [some (.ref p0), some (.ref p1), some (.int p2), some (.int (gi v p0 6))]) (st' := [.int ((gi w27 p0 6) - (gi v p0 6)), .int x25]) (v1 := w27) (by decide +kernel) rfl ⟨(h28.2.2.2.2 _ _ h20), trivial⟩ ?_
  refine sim_ne (o := 7) (tg := 129) (f := 125) (by decide +kernel) rfl rfl (fun _ => ?_) (fun _ => ?_)
  · refine sim_seg [(.iconst 1, 0, 0, 1), (.goto 4, 0, 0, 0)] [] (q := 130) (L' := [some (.ref p0), some (.ref p1), some (.int p2), some (.int (gi v p0 6))]) (st' := [.int (J 1)]) (v1 := w27) (by decide +kernel) rfl trivial ?_
    exact sim_iret (by decide +kernel) rfl (by decide) rfl
  · refine sim_seg [(.iconst 0, 0, 0, 0)] [] (q := 130) (L' := [some (.ref p0), some (.ref p1), some (.int p2), some (.int (gi v p0 6))]) (st' := [.int (J 0)]) (v1 := w27) (by decide +kernel) rfl trivial ?_
    exact sim_iret (by decide +kernel) rfl (by decide) rfl
noncomputable def K_lw_act_131 (N : Nat)  (S : shp) (v : vl) (p0 : Nat) (p1 : Nat) (p2 : Int32) : Option (Int32 × shp × vl) :=
  grd (kin S p0 = some (0, 6)) <| (F_lw_bits p2 (J 3) (J 3) S v).bind fun x32 => lt (si (si v p0 9 ((J 1) <<< ((x32 - x32 / (J 5) * (J 5)) &&& 31))) p0 8 (J 0)) fun w33 => grd (kin S p1 = some (0, 5)) <| bx (F_gc_setPrescale N p1 (gi w33 p0 9) S w33) (fun _ => none) fun (x35, S36, w37) => (if x35 = (gi v p0 9) then some (((J 1), S36, w37)) else some (((J 0), S36, w37)))
theorem sK_lw_act_131 (N : Nat)   (S : shp) (v : vl) (p0 : Nat) (p1 : Nat) (p2 : Int32) : SimK B_lw_act 131 [some (.ref p0), some (.ref p1), some (.int p2), none] [] S v (K_lw_act_131 N  S v p0 p1 p2) (ρgi) := by
  unfold K_lw_act_131
  refine sim_grd fun h31 => ?_
  refine sim_seg [(.aload_n 0, 0, 0, 0), (.getfield 61, 6, 9, 0), (.istore_n 3, 0, 0, 0)] [] (q := 136) (L' := [some (.ref p0), some (.ref p1), some (.int p2), some (.int (gi v p0 9))]) (st' := []) (v1 := v) (by decide +kernel) rfl ⟨h31, trivial⟩ ?_
  refine sim_seg [(.aload_n 0, 0, 0, 0), (.iconst 1, 0, 0, 1), (.iload_n 2, 0, 0, 0), (.iconst 3, 0, 0, 3), (.iconst 3, 0, 0, 3)] [] (q := 141) (L' := [some (.ref p0), some (.ref p1), some (.int p2), some (.int (gi v p0 9))]) (st' := [.int (J 3), .int (J 3), .int p2, .int (J 1), .ref p0]) (v1 := v) (by decide +kernel) rfl trivial ?_
  refine sc_ri (pc3 := 144) (cf_S (idx := 47) [.int p2, .int (J 3), .int (J 3)] m_lw_bits ⟨by decide, by decide⟩ (List.mem_of_getElem? (i := 541) (by decide +kernel)) rfl (Nat.le_of_ble_eq_true rfl) (by decide +kernel) (Nat.le_of_ble_eq_true rfl) rfl) (ok_lw_bits p2 (J 3) (J 3) S v) rfl (fun x32 => ?_)
  refine sim_seg [(.iconst 5, 0, 0, 5), (.irem, 0, 0, 0), (.ishl, 0, 0, 0), (.putfield 61, 6, 9, 0), (.aload_n 0, 0, 0, 0), (.iconst 0, 0, 0, 0), (.putfield 150, 6, 8, 0), (.aload_n 1, 0, 0, 0), (.aload_n 0, 0, 0, 0)] [] (q := 157) (L' := [some (.ref p0), some (.ref p1), some (.int p2), some (.int (gi v p0 9))]) (st' := [.ref p0, .ref p1]) (v1 := (si (si v p0 9 ((J 1) <<< ((x32 - x32 / (J 5) * (J 5)) &&& 31))) p0 8 (J 0))) (by decide +kernel) rfl ⟨(by decide), h31, h31, trivial⟩ ?_
  refine sim_lt (x := (si (si v p0 9 ((J 1) <<< ((x32 - x32 / (J 5) * (J 5)) &&& 31))) p0 8 (J 0))) ?_
  generalize (si (si v p0 9 ((J 1) <<< ((x32 - x32 / (J 5) * (J 5)) &&& 31))) p0 8 (J 0)) = w33
  refine sim_seg [(.getfield 61, 6, 9, 0)] [] (q := 160) (L' := [some (.ref p0), some (.ref p1), some (.int p2), some (.int (gi v p0 9))]) (st' := [.int (gi w33 p0 9), .ref p1]) (v1 := w33) (by decide +kernel) rfl ⟨h31, trivial⟩ ?_
  refine sim_grd fun h34 => ?_
  refine sc_zi (pc3 := 163) (cf_V (idx := 226) (ci := 5) [.int (gi w33 p0 9)] m_gc_setPrescale (by decide) ⟨by decide, by decide⟩ (List.mem_of_getElem? (i := 1145) (by decide +kernel)) rfl (Nat.le_of_ble_eq_true rfl) h34 (by decide +kernel) (Nat.le_of_ble_eq_true rfl) rfl) (ok_gc_setPrescale N p1 (gi w33 p0 9) S w33) rfl rfl (fun k0 b hb => by cases hb) (fun x35 S36 w37 h38 => ?_)
  refine sim_seg [(.iload_n 3, 0, 0, 0)] [] (q := 164) (L' := [some (.ref p0), some (.ref p1), some (.int p2), some (.int (gi v p0 9))]) (st' := [.int (gi v p0 9), .int x35]) (v1 := w37) (by decide +kernel) rfl trivial ?_
  refine sim_ne (o := 7) (tg := 171) (f := 167) (by decide +kernel) rfl rfl (fun _ => ?_) (fun _ => ?_)
  · refine sim_seg [(.iconst 1, 0, 0, 1), (.goto 4, 0, 0, 0)] [] (q := 172) (L' := [some (.ref p0), some (.ref p1), some (.int p2), some (.int (gi v p0 9))]) (st' := [.int (J 1)]) (v1 := w37) (by decide +kernel) rfl trivial ?_
    exact sim_iret (by decide +kernel) rfl (by decide) rfl
  · refine sim_seg [(.iconst 0, 0, 0, 0)] [] (q := 172) (L' := [some (.ref p0), some (.ref p1), some (.int p2), some (.int (gi v p0 9))]) (st' := [.int (J 0)]) (v1 := w37) (by decide +kernel) rfl trivial ?_
    exact sim_iret (by decide +kernel) rfl (by decide) rfl
noncomputable def K_lw_act_173 (N : Nat)  (S : shp) (v : vl) (p0 : Nat) (p1 : Nat) (p2 : Int32) : Option (Int32 × shp × vl) :=
  grd (kin S p0 = some (0, 6)) <| (F_lw_bits p2 (J 3) (J 5) S v).bind fun x41 => lt (si v p0 10 ((J 1) + x41)) fun w42 => grd (kin S p1 = some (0, 5)) <| bx (F_gc_set N p1 (J 4) (gi w42 p0 10) S w42) (fun _ => none) fun (x44, S45, w46) => (if x44 = (gi v p0 10) then some (((J 1), S45, w46)) else some (((J 0), S45, w46)))
theorem sK_lw_act_173 (N : Nat)   (S : shp) (v : vl) (p0 : Nat) (p1 : Nat) (p2 : Int32) : SimK B_lw_act 173 [some (.ref p0), some (.ref p1), some (.int p2), none] [] S v (K_lw_act_173 N  S v p0 p1 p2) (ρgi) := by
  unfold K_lw_act_173
  refine sim_grd fun h40 => ?_
  refine sim_seg [(.aload_n 0, 0, 0, 0), (.getfield 64, 6, 10, 0), (.istore_n 3, 0, 0, 0)] [] (q := 178) (L' := [some (.ref p0), some (.ref p1), some (.int p2), some (.int (gi v p0 10))]) (st' := []) (v1 := v) (by decide +kernel) rfl ⟨h40, trivial⟩ ?_
  refine sim_seg [(.aload_n 0, 0, 0, 0), (.iconst 1, 0, 0, 1), (.iload_n 2, 0, 0, 0), (.iconst 3, 0, 0, 3), (.iconst 5, 0, 0, 5)] [] (q := 183) (L' := [some (.ref p0), some (.ref p1), some (.int p2), some (.int (gi v p0 10))]) (st' := [.int (J 5), .int (J 3), .int p2, .int (J 1), .ref p0]) (v1 := v) (by decide +kernel) rfl trivial ?_
  refine sc_ri (pc3 := 186) (cf_S (idx := 47) [.int p2, .int (J 3), .int (J 5)] m_lw_bits ⟨by decide, by decide⟩ (List.mem_of_getElem? (i := 541) (by decide +kernel)) rfl (Nat.le_of_ble_eq_true rfl) (by decide +kernel) (Nat.le_of_ble_eq_true rfl) rfl) (ok_lw_bits p2 (J 3) (J 5) S v) rfl (fun x41 => ?_)
  refine sim_seg [(.iadd, 0, 0, 0), (.putfield 64, 6, 10, 0), (.aload_n 1, 0, 0, 0), (.iconst 4, 0, 0, 4), (.aload_n 0, 0, 0, 0)] [] (q := 193) (L' := [some (.ref p0), some (.ref p1), some (.int p2), some (.int (gi v p0 10))]) (st' := [.ref p0, .int (J 4), .ref p1]) (v1 := (si v p0 10 ((J 1) + x41))) (by decide +kernel) rfl ⟨h40, trivial⟩ ?_
  refine sim_lt (x := (si v p0 10 ((J 1) + x41))) ?_
  generalize (si v p0 10 ((J 1) + x41)) = w42
  refine sim_seg [(.getfield 64, 6, 10, 0)] [] (q := 196) (L' := [some (.ref p0), some (.ref p1), some (.int p2), some (.int (gi v p0 10))]) (st' := [.int (gi w42 p0 10), .int (J 4), .ref p1]) (v1 := w42) (by decide +kernel) rfl ⟨h40, trivial⟩ ?_
  refine sim_grd fun h43 => ?_
  refine sc_zi (pc3 := 199) (cf_V (idx := 229) (ci := 5) [.int (J 4), .int (gi w42 p0 10)] m_gc_set (by decide) ⟨by decide, by decide⟩ (List.mem_of_getElem? (i := 1151) (by decide +kernel)) rfl (Nat.le_of_ble_eq_true rfl) h43 (by decide +kernel) (Nat.le_of_ble_eq_true rfl) rfl) (ok_gc_set N p1 (J 4) (gi w42 p0 10) S w42) rfl rfl (fun k0 b hb => by cases hb) (fun x44 S45 w46 h47 => ?_)
  refine sim_seg [(.iload_n 3, 0, 0, 0)] [] (q := 200) (L' := [some (.ref p0), some (.ref p1), some (.int p2), some (.int (gi v p0 10))]) (st' := [.int (gi v p0 10), .int x44]) (v1 := w46) (by decide +kernel) rfl trivial ?_
  refine sim_ne (o := 7) (tg := 207) (f := 203) (by decide +kernel) rfl rfl (fun _ => ?_) (fun _ => ?_)
  · refine sim_seg [(.iconst 1, 0, 0, 1), (.goto 4, 0, 0, 0)] [] (q := 208) (L' := [some (.ref p0), some (.ref p1), some (.int p2), some (.int (gi v p0 10))]) (st' := [.int (J 1)]) (v1 := w46) (by decide +kernel) rfl trivial ?_
    exact sim_iret (by decide +kernel) rfl (by decide) rfl
  · refine sim_seg [(.iconst 0, 0, 0, 0)] [] (q := 208) (L' := [some (.ref p0), some (.ref p1), some (.int p2), some (.int (gi v p0 10))]) (st' := [.int (J 0)]) (v1 := w46) (by decide +kernel) rfl trivial ?_
    exact sim_iret (by decide +kernel) rfl (by decide) rfl
noncomputable def K_lw_act_209 (N : Nat)  (S : shp) (v : vl) (p0 : Nat) (p1 : Nat) (p2 : Int32) : Option (Int32 × shp × vl) :=
  grd (kin S p0 = some (0, 6)) <| (F_lw_bits p2 (J 3) (J 5) S v).bind fun x50 => lt (si v p0 11 ((J 1) + x50)) fun w51 => grd (kin S p1 = some (0, 5)) <| bx (F_gc_set N p1 (J 5) (gi w51 p0 11) S w51) (fun _ => none) fun (x53, S54, w55) => (if x53 = (gi v p0 11) then some (((J 1), S54, w55)) else some (((J 0), S54, w55)))
theorem sK_lw_act_209 (N : Nat)   (S : shp) (v : vl) (p0 : Nat) (p1 : Nat) (p2 : Int32) : SimK B_lw_act 209 [some (.ref p0), some (.ref p1), some (.int p2), none] [] S v (K_lw_act_209 N  S v p0 p1 p2) (ρgi) := by
  unfold K_lw_act_209
  refine sim_grd fun h49 => ?_
  refine sim_seg [(.aload_n 0, 0, 0, 0), (.getfield 67, 6, 11, 0), (.istore_n 3, 0, 0, 0)] [] (q := 214) (L' := [some (.ref p0), some (.ref p1), some (.int p2), some (.int (gi v p0 11))]) (st' := []) (v1 := v) (by decide +kernel) rfl ⟨h49, trivial⟩ ?_
  refine sim_seg [(.aload_n 0, 0, 0, 0), (.iconst 1, 0, 0, 1), (.iload_n 2, 0, 0, 0), (.iconst 3, 0, 0, 3), (.iconst 5, 0, 0, 5)] [] (q := 219) (L' := [some (.ref p0), some (.ref p1), some (.int p2), some (.int (gi v p0 11))]) (st' := [.int (J 5), .int (J 3), .int p2, .int (J 1), .ref p0]) (v1 := v) (by decide +kernel) rfl trivial ?_
  refine sc_ri (pc3 := 222) (cf_S (idx := 47) [.int p2, .int (J 3), .int (J 5)] m_lw_bits ⟨by decide, by decide⟩ (List.mem_of_getElem? (i := 541) (by decide +kernel)) rfl (Nat.le_of_ble_eq_true rfl) (by decide +kernel) (Nat.le_of_ble_eq_true rfl) rfl) (ok_lw_bits p2 (J 3) (J 5) S v) rfl (fun x50 => ?_)
  refine sim_seg [(.iadd, 0, 0, 0), (.putfield 67, 6, 11, 0), (.aload_n 1, 0, 0, 0), (.iconst 5, 0, 0, 5), (.aload_n 0, 0, 0, 0)] [] (q := 229) (L' := [some (.ref p0), some (.ref p1), some (.int p2), some (.int (gi v p0 11))]) (st' := [.ref p0, .int (J 5), .ref p1]) (v1 := (si v p0 11 ((J 1) + x50))) (by decide +kernel) rfl ⟨h49, trivial⟩ ?_
  refine sim_lt (x := (si v p0 11 ((J 1) + x50))) ?_
  generalize (si v p0 11 ((J 1) + x50)) = w51
  refine sim_seg [(.getfield 67, 6, 11, 0)] [] (q := 232) (L' := [some (.ref p0), some (.ref p1), some (.int p2), some (.int (gi v p0 11))]) (st' := [.int (gi w51 p0 11), .int (J 5), .ref p1]) (v1 := w51) (by decide +kernel) rfl ⟨h49, trivial⟩ ?_
  refine sim_grd fun h52 => ?_
  refine sc_zi (pc3 := 235) (cf_V (idx := 229) (ci := 5) [.int (J 5), .int (gi w51 p0 11)] m_gc_set (by decide) ⟨by decide, by decide⟩ (List.mem_of_getElem? (i := 1151) (by decide +kernel)) rfl (Nat.le_of_ble_eq_true rfl) h52 (by decide +kernel) (Nat.le_of_ble_eq_true rfl) rfl) (ok_gc_set N p1 (J 5) (gi w51 p0 11) S w51) rfl rfl (fun k0 b hb => by cases hb) (fun x53 S54 w55 h56 => ?_)
  refine sim_seg [(.iload_n 3, 0, 0, 0)] [] (q := 236) (L' := [some (.ref p0), some (.ref p1), some (.int p2), some (.int (gi v p0 11))]) (st' := [.int (gi v p0 11), .int x53]) (v1 := w55) (by decide +kernel) rfl trivial ?_
  refine sim_ne (o := 7) (tg := 243) (f := 239) (by decide +kernel) rfl rfl (fun _ => ?_) (fun _ => ?_)
  · refine sim_seg [(.iconst 1, 0, 0, 1), (.goto 4, 0, 0, 0)] [] (q := 244) (L' := [some (.ref p0), some (.ref p1), some (.int p2), some (.int (gi v p0 11))]) (st' := [.int (J 1)]) (v1 := w55) (by decide +kernel) rfl trivial ?_
    exact sim_iret (by decide +kernel) rfl (by decide) rfl
  · refine sim_seg [(.iconst 0, 0, 0, 0)] [] (q := 244) (L' := [some (.ref p0), some (.ref p1), some (.int p2), some (.int (gi v p0 11))]) (st' := [.int (J 0)]) (v1 := w55) (by decide +kernel) rfl trivial ?_
    exact sim_iret (by decide +kernel) rfl (by decide) rfl
noncomputable def K_lw_act_245 (N : Nat)  (S : shp) (v : vl) (p0 : Nat) (p1 : Nat) (p2 : Int32) : Option (Int32 × shp × vl) :=
  grd (kin S p0 = some (0, 6)) <| (F_lw_bits p2 (J 3) (J 6) S v).bind fun x59 => lt (si v p0 12 (x59 - (J 32))) fun w60 => grd (kin S p1 = some (0, 5)) <| bx (F_gc_set N p1 (J 6) (gi w60 p0 12) S w60) (fun _ => none) fun (x62, S63, w64) => (if x62 = (gi v p0 12) then some (((J 1), S63, w64)) else some (((J 0), S63, w64)))
theorem sK_lw_act_245 (N : Nat)   (S : shp) (v : vl) (p0 : Nat) (p1 : Nat) (p2 : Int32) : SimK B_lw_act 245 [some (.ref p0), some (.ref p1), some (.int p2), none] [] S v (K_lw_act_245 N  S v p0 p1 p2) (ρgi) := by
  unfold K_lw_act_245
  refine sim_grd fun h58 => ?_
  refine sim_seg [(.aload_n 0, 0, 0, 0), (.getfield 172, 6, 12, 0), (.istore_n 3, 0, 0, 0)] [] (q := 250) (L' := [some (.ref p0), some (.ref p1), some (.int p2), some (.int (gi v p0 12))]) (st' := []) (v1 := v) (by decide +kernel) rfl ⟨h58, trivial⟩ ?_
  refine sim_seg [(.aload_n 0, 0, 0, 0), (.iload_n 2, 0, 0, 0), (.iconst 3, 0, 0, 3), (.bipush 6, 0, 0, 6)] [] (q := 255) (L' := [some (.ref p0), some (.ref p1), some (.int p2), some (.int (gi v p0 12))]) (st' := [.int (J 6), .int (J 3), .int p2, .ref p0]) (v1 := v) (by decide +kernel) rfl trivial ?_
  refine sc_ri (pc3 := 258) (cf_S (idx := 47) [.int p2, .int (J 3), .int (J 6)] m_lw_bits ⟨by decide, by decide⟩ (List.mem_of_getElem? (i := 541) (by decide +kernel)) rfl (Nat.le_of_ble_eq_true rfl) (by decide +kernel) (Nat.le_of_ble_eq_true rfl) rfl) (ok_lw_bits p2 (J 3) (J 6) S v) rfl (fun x59 => ?_)
  refine sim_seg [(.bipush 32, 0, 0, 32), (.isub, 0, 0, 0), (.putfield 172, 6, 12, 0), (.aload_n 1, 0, 0, 0), (.bipush 6, 0, 0, 6), (.aload_n 0, 0, 0, 0)] [] (q := 268) (L' := [some (.ref p0), some (.ref p1), some (.int p2), some (.int (gi v p0 12))]) (st' := [.ref p0, .int (J 6), .ref p1]) (v1 := (si v p0 12 (x59 - (J 32)))) (by decide +kernel) rfl ⟨h58, trivial⟩ ?_
  refine sim_lt (x := (si v p0 12 (x59 - (J 32)))) ?_
  generalize (si v p0 12 (x59 - (J 32))) = w60
  refine sim_seg [(.getfield 172, 6, 12, 0)] [] (q := 271) (L' := [some (.ref p0), some (.ref p1), some (.int p2), some (.int (gi v p0 12))]) (st' := [.int (gi w60 p0 12), .int (J 6), .ref p1]) (v1 := w60) (by decide +kernel) rfl ⟨h58, trivial⟩ ?_
  refine sim_grd fun h61 => ?_
  refine sc_zi (pc3 := 274) (cf_V (idx := 229) (ci := 5) [.int (J 6), .int (gi w60 p0 12)] m_gc_set (by decide) ⟨by decide, by decide⟩ (List.mem_of_getElem? (i := 1151) (by decide +kernel)) rfl (Nat.le_of_ble_eq_true rfl) h61 (by decide +kernel) (Nat.le_of_ble_eq_true rfl) rfl) (ok_gc_set N p1 (J 6) (gi w60 p0 12) S w60) rfl rfl (fun k0 b hb => by cases hb) (fun x62 S63 w64 h65 => ?_)
  refine sim_seg [(.iload_n 3, 0, 0, 0)] [] (q := 275) (L' := [some (.ref p0), some (.ref p1), some (.int p2), some (.int (gi v p0 12))]) (st' := [.int (gi v p0 12), .int x62]) (v1 := w64) (by decide +kernel) rfl trivial ?_
  refine sim_ne (o := 7) (tg := 282) (f := 278) (by decide +kernel) rfl rfl (fun _ => ?_) (fun _ => ?_)
  · refine sim_seg [(.iconst 1, 0, 0, 1), (.goto 4, 0, 0, 0)] [] (q := 283) (L' := [some (.ref p0), some (.ref p1), some (.int p2), some (.int (gi v p0 12))]) (st' := [.int (J 1)]) (v1 := w64) (by decide +kernel) rfl trivial ?_
    exact sim_iret (by decide +kernel) rfl (by decide) rfl
  · refine sim_seg [(.iconst 0, 0, 0, 0)] [] (q := 283) (L' := [some (.ref p0), some (.ref p1), some (.int p2), some (.int (gi v p0 12))]) (st' := [.int (J 0)]) (v1 := w64) (by decide +kernel) rfl trivial ?_
    exact sim_iret (by decide +kernel) rfl (by decide) rfl
noncomputable def F_lw_act (N : Nat) (a0 : Nat) (a1 : Nat) (b2 : Int32) (S : shp) (v : vl) : Option (Int32 × shp × vl) :=
  (F_lw_bits b2 (J 0) (J 3) S v).bind fun x1 => (if x1 = J 0 then K_lw_act_48 N  S v a0 a1 else if x1 = J 1 then K_lw_act_74 N  S v a0 a1 else if x1 = J 2 then K_lw_act_80 N  S v a0 a1 b2 else if x1 = J 3 then K_lw_act_80 N  S v a0 a1 b2 else if x1 = J 4 then K_lw_act_131 N  S v a0 a1 b2 else if x1 = J 5 then K_lw_act_173 N  S v a0 a1 b2 else if x1 = J 6 then K_lw_act_209 N  S v a0 a1 b2 else K_lw_act_245 N  S v a0 a1 b2)
theorem ok_lw_act (N : Nat) (a0 : Nat) (a1 : Nat) (b2 : Int32) (S : shp) (v : vl) : SimK B_lw_act 0 (entB (bN B_lw_act) [.ref a0, .ref a1, .int b2]) [] S v (F_lw_act N a0 a1 b2 S v) (ρgi) := by
  show SimK B_lw_act 0 [some (.ref a0), some (.ref a1), some (.int b2), none] [] S v (F_lw_act N a0 a1 b2 S v) _
  unfold F_lw_act
  refine sim_seg [(.iload_n 2, 0, 0, 0), (.iconst 0, 0, 0, 0), (.iconst 3, 0, 0, 3)] [] (q := 3) (L' := [some (.ref a0), some (.ref a1), some (.int b2), none]) (st' := [.int (J 3), .int (J 0), .int b2]) (v1 := v) (by decide +kernel) rfl trivial ?_
  refine sc_ri (pc3 := 6) (cf_S (idx := 47) [.int b2, .int (J 0), .int (J 3)] m_lw_bits ⟨by decide, by decide⟩ (List.mem_of_getElem? (i := 541) (by decide +kernel)) rfl (Nat.le_of_ble_eq_true rfl) (by decide +kernel) (Nat.le_of_ble_eq_true rfl) rfl) (ok_lw_bits b2 (J 0) (J 3) S v) rfl (fun x1 => ?_)
  refine sim_case (df := 239) (lw := 0) (hg := 6) (offs := #[42, 68, 74, 74, 125, 167, 203]) (len := 42) (z := 0) (o := 42) (tg := 48) (by decide +kernel) rfl rfl (by decide) (fun _ => ?_) (fun h12 => ?_)
  · exact sim_wk (L0 := [some (.ref a0), some (.ref a1), none, none]) ⟨rfl, rfl, trivial⟩ (sK_lw_act_48 N S v a0 a1)
  refine sim_case (df := 239) (lw := 0) (hg := 6) (offs := #[42, 68, 74, 74, 125, 167, 203]) (len := 42) (z := 1) (o := 68) (tg := 74) (by decide +kernel) rfl rfl (by decide) (fun _ => ?_) (fun h19 => ?_)
  · exact sim_wk (L0 := [some (.ref a0), some (.ref a1), none, none]) ⟨rfl, rfl, trivial⟩ (sK_lw_act_74 N S v a0 a1)
  refine sim_case (df := 239) (lw := 0) (hg := 6) (offs := #[42, 68, 74, 74, 125, 167, 203]) (len := 42) (z := 2) (o := 74) (tg := 80) (by decide +kernel) rfl rfl (by decide) (fun _ => ?_) (fun h29 => ?_)
  · exact sK_lw_act_80 N S v a0 a1 b2
  refine sim_case (df := 239) (lw := 0) (hg := 6) (offs := #[42, 68, 74, 74, 125, 167, 203]) (len := 42) (z := 3) (o := 74) (tg := 80) (by decide +kernel) rfl rfl (by decide) (fun _ => ?_) (fun h30 => ?_)
  · exact sK_lw_act_80 N S v a0 a1 b2
  refine sim_case (df := 239) (lw := 0) (hg := 6) (offs := #[42, 68, 74, 74, 125, 167, 203]) (len := 42) (z := 4) (o := 125) (tg := 131) (by decide +kernel) rfl rfl (by decide) (fun _ => ?_) (fun h39 => ?_)
  · exact sK_lw_act_131 N S v a0 a1 b2
  refine sim_case (df := 239) (lw := 0) (hg := 6) (offs := #[42, 68, 74, 74, 125, 167, 203]) (len := 42) (z := 5) (o := 167) (tg := 173) (by decide +kernel) rfl rfl (by decide) (fun _ => ?_) (fun h48 => ?_)
  · exact sK_lw_act_173 N S v a0 a1 b2
  refine sim_case (df := 239) (lw := 0) (hg := 6) (offs := #[42, 68, 74, 74, 125, 167, 203]) (len := 42) (z := 6) (o := 203) (tg := 209) (by decide +kernel) rfl rfl (by decide) (fun _ => ?_) (fun h57 => ?_)
  · exact sK_lw_act_209 N S v a0 a1 b2
  refine sim_tdef (df := 239) (lw := 0) (hg := 6) (offs := #[42, 68, 74, 74, 125, 167, 203]) (len := 42) (tg := 245) (by decide +kernel) rfl (by have eh12 := ne_J h12 (by decide) (by decide); have eh19 := ne_J h19 (by decide) (by decide); have eh29 := ne_J h29 (by decide) (by decide); have eh30 := ne_J h30 (by decide) (by decide); have eh39 := ne_J h39 (by decide) (by decide); have eh48 := ne_J h48 (by decide) (by decide); have eh57 := ne_J h57 (by decide) (by decide); omega) ?_
  exact sK_lw_act_245 N S v a0 a1 b2
def B_lw_isSame : bd := (⟨"GateCounterLaw", "isSame", "(LGateCounter;)Z"⟩, method_14_code, 2, (some .boolean), [], 6, 7)
theorem m_lw_isSame : mV B_lw_isSame 6 1 := ⟨⟨⟨by decide +kernel, Or.inl rfl⟩, rfl, (List.mem_of_getElem? (i := 767) (by decide +kernel)), by decide +kernel, (List.mem_of_getElem? (i := 44) (by decide +kernel)), ⟨by decide, by decide⟩, by decide⟩, rfl, (by unfold nar; decide +kernel), (List.mem_of_getElem? (i := 766) (by decide +kernel)), rfl, (List.mem_of_getElem? (i := 18) (by decide +kernel))⟩
noncomputable def K_lw_isSame_157  (S : shp) (v : vl) (p0 : Nat) (p1 : Nat) (s0 : Int32) (s1 : Int32) : Option Int32 :=
  (if s0 = s1 then grd (kin S p1 = some (0, 5)) <| bx (F_gc_setting p1 (J 1) S v) (fun _ => none) fun x22 => grd (kin S p0 = some (0, 6)) <| (if x22 = (gi v p0 13) then bx (F_gc_setting p1 (J 3) S v) (fun _ => none) fun x24 => (if x24 = (gi v p0 9) then (F_gc_tickShare p1 S v).bind fun f25 => (if (gi v p0 5) = (J 0) then (if (Op.cmpValue (FP.fcmp f25 FP.fconst0) .l) = (J 0) then some ((J 1)) else some ((J 0))) else grd (vf_n32 (FP.fdiv (FP.i2f (gi v p0 19)) (FP.i2f (gi v p0 5)))) <| lt (Op.cmpValue (FP.fcmp f25 (FP.fdiv (FP.i2f (gi v p0 19)) (FP.i2f (gi v p0 5)))) .l) fun x27 => (if x27 = (J 0) then some ((J 1)) else some ((J 0)))) else some ((J 0))) else some ((J 0))) else some ((J 0)))
theorem sK_lw_isSame_157   (S : shp) (v : vl) (p0 : Nat) (p1 : Nat) (s0 : Int32) (s1 : Int32) : SimK B_lw_isSame 157 [some (.ref p0), some (.ref p1)] [.int s1, .int s0] S v (K_lw_isSame_157   S v p0 p1 s0 s1) (ρri S v) := by
  unfold K_lw_isSame_157
  refine sim_eq (o := 5) (tg := 162) (f := 160) (by decide +kernel) rfl rfl (fun _ => ?_) (fun _ => ?_)
  · refine sim_seg [(.aload_n 1, 0, 0, 0), (.iconst 1, 0, 0, 1)] [] (q := 164) (L' := [some (.ref p0), some (.ref p1)]) (st' := [.int (J 1), .ref p1]) (v1 := v) (by decide +kernel) rfl trivial ?_
    refine sim_grd fun h21 => ?_
    refine sc_xi (pc3 := 167) (cf_V (idx := 193) (ci := 5) [.int (J 1)] m_gc_setting (by decide) ⟨by decide, by decide⟩ (List.mem_of_getElem? (i := 864) (by decide +kernel)) rfl (Nat.le_of_ble_eq_true rfl) h21 (by decide +kernel) (Nat.le_of_ble_eq_true rfl) rfl) (ok_gc_setting p1 (J 1) S v) rfl rfl (fun k0 b hb => by cases hb) (fun x22 => ?_)
    refine sim_grd fun h23 => ?_
    refine sim_seg [(.aload_n 0, 0, 0, 0), (.getfield 55, 6, 13, 0)] [] (q := 171) (L' := [some (.ref p0), some (.ref p1)]) (st' := [.int (gi v p0 13), .int x22]) (v1 := v) (by decide +kernel) rfl ⟨h23, trivial⟩ ?_
    refine sim_ne (o := 49) (tg := 220) (f := 174) (by decide +kernel) rfl rfl (fun _ => ?_) (fun _ => ?_)
    · refine sim_seg [(.aload_n 1, 0, 0, 0), (.iconst 3, 0, 0, 3)] [] (q := 176) (L' := [some (.ref p0), some (.ref p1)]) (st' := [.int (J 3), .ref p1]) (v1 := v) (by decide +kernel) rfl trivial ?_
      refine sc_xi (pc3 := 179) (cf_V (idx := 193) (ci := 5) [.int (J 3)] m_gc_setting (by decide) ⟨by decide, by decide⟩ (List.mem_of_getElem? (i := 864) (by decide +kernel)) rfl (Nat.le_of_ble_eq_true rfl) h21 (by decide +kernel) (Nat.le_of_ble_eq_true rfl) rfl) (ok_gc_setting p1 (J 3) S v) rfl rfl (fun k0 b hb => by cases hb) (fun x24 => ?_)
      refine sim_seg [(.aload_n 0, 0, 0, 0), (.getfield 61, 6, 9, 0)] [] (q := 183) (L' := [some (.ref p0), some (.ref p1)]) (st' := [.int (gi v p0 9), .int x24]) (v1 := v) (by decide +kernel) rfl ⟨h23, trivial⟩ ?_
      refine sim_ne (o := 37) (tg := 220) (f := 186) (by decide +kernel) rfl rfl (fun _ => ?_) (fun _ => ?_)
      · refine sim_seg [(.aload_n 1, 0, 0, 0)] [] (q := 187) (L' := [some (.ref p0), some (.ref p1)]) (st' := [.ref p1]) (v1 := v) (by decide +kernel) rfl trivial ?_
        refine sc_rf (pc3 := 190) (cf_V (idx := 196) (ci := 5) [] m_gc_tickShare (by decide) ⟨by decide, by decide⟩ (List.mem_of_getElem? (i := 868) (by decide +kernel)) rfl (Nat.le_of_ble_eq_true rfl) h21 (by decide +kernel) (Nat.le_of_ble_eq_true rfl) rfl) (ok_gc_tickShare p1 S v) rfl (fun f25 => ?_)
        refine sim_seg [(.aload_n 0, 0, 0, 0), (.getfield 97, 6, 5, 0)] [] (q := 194) (L' := [some (.ref p0), some (.ref p1)]) (st' := [.int (gi v p0 5), .float f25]) (v1 := v) (by decide +kernel) rfl ⟨h23, trivial⟩ ?_
        refine sim_ne0 (o := 7) (tg := 201) (f := 197) (by decide +kernel) rfl rfl (fun _ => ?_) (fun _ => ?_)
        · refine sim_seg [(.fconst 0, 0, 0, 0), (.goto 14, 0, 0, 0), (.fcmp .l, 0, 0, 0)] [] (q := 213) (L' := [some (.ref p0), some (.ref p1)]) (st' := [.int (Op.cmpValue (FP.fcmp f25 FP.fconst0) .l)]) (v1 := v) (by decide +kernel) rfl trivial ?_
          refine sim_ne0 (o := 7) (tg := 220) (f := 216) (by decide +kernel) rfl rfl (fun _ => ?_) (fun _ => ?_)
          · refine sim_seg [(.iconst 1, 0, 0, 1), (.goto 4, 0, 0, 0)] [] (q := 221) (L' := [some (.ref p0), some (.ref p1)]) (st' := [.int (J 1)]) (v1 := v) (by decide +kernel) rfl trivial ?_
            exact sim_iret (by decide +kernel) rfl (by decide) rfl
          · refine sim_seg [(.iconst 0, 0, 0, 0)] [] (q := 221) (L' := [some (.ref p0), some (.ref p1)]) (st' := [.int (J 0)]) (v1 := v) (by decide +kernel) rfl trivial ?_
            exact sim_iret (by decide +kernel) rfl (by decide) rfl
        · refine sim_grd fun h26 => ?_
          refine sim_seg [(.aload_n 0, 0, 0, 0), (.getfield 144, 6, 19, 0), (.i2f, 0, 0, 0), (.aload_n 0, 0, 0, 0), (.getfield 97, 6, 5, 0), (.i2f, 0, 0, 0), (.fdiv, 0, 0, 0), (.fcmp .l, 0, 0, 0)] [] (q := 213) (L' := [some (.ref p0), some (.ref p1)]) (st' := [.int (Op.cmpValue (FP.fcmp f25 (FP.fdiv (FP.i2f (gi v p0 19)) (FP.i2f (gi v p0 5)))) .l)]) (v1 := v) (by decide +kernel) rfl ⟨h23, h23, h26, trivial⟩ ?_
          refine sim_nm (Op.cmpValue (FP.fcmp f25 (FP.fdiv (FP.i2f (gi v p0 19)) (FP.i2f (gi v p0 5)))) .l) (fun x27 => [some (.ref p0), some (.ref p1)]) (fun x27 => [.int x27]) (fun x27 => ?_) rfl rfl
          refine sim_ne0 (o := 7) (tg := 220) (f := 216) (by decide +kernel) rfl rfl (fun _ => ?_) (fun _ => ?_)
          · refine sim_seg [(.iconst 1, 0, 0, 1), (.goto 4, 0, 0, 0)] [] (q := 221) (L' := [some (.ref p0), some (.ref p1)]) (st' := [.int (J 1)]) (v1 := v) (by decide +kernel) rfl trivial ?_
            exact sim_iret (by decide +kernel) rfl (by decide) rfl
          · refine sim_seg [(.iconst 0, 0, 0, 0)] [] (q := 221) (L' := [some (.ref p0), some (.ref p1)]) (st' := [.int (J 0)]) (v1 := v) (by decide +kernel) rfl trivial ?_
            exact sim_iret (by decide +kernel) rfl (by decide) rfl
      · refine sim_seg [(.iconst 0, 0, 0, 0)] [] (q := 221) (L' := [some (.ref p0), some (.ref p1)]) (st' := [.int (J 0)]) (v1 := v) (by decide +kernel) rfl trivial ?_
        exact sim_iret (by decide +kernel) rfl (by decide) rfl
    · refine sim_seg [(.iconst 0, 0, 0, 0)] [] (q := 221) (L' := [some (.ref p0), some (.ref p1)]) (st' := [.int (J 0)]) (v1 := v) (by decide +kernel) rfl trivial ?_
      exact sim_iret (by decide +kernel) rfl (by decide) rfl
  · refine sim_seg [(.iconst 0, 0, 0, 0)] [] (q := 161) (L' := [some (.ref p0), some (.ref p1)]) (st' := [.int (J 0)]) (v1 := v) (by decide +kernel) rfl trivial ?_
    exact sim_iret (by decide +kernel) rfl (by decide) rfl
noncomputable def K_lw_isSame_113  (S : shp) (v : vl) (p0 : Nat) (p1 : Nat) (s0 : Int32) (s1 : Int32) : Option Int32 :=
  (if s0 = s1 then grd (kin S p1 = some (0, 5)) <| bx (F_gc_state p1 (J 4) S v) (fun _ => none) fun x14 => grd (kin S p0 = some (0, 6)) <| (if x14 = (gi v p0 8) then bx (F_gc_state p1 (J 5) S v) (fun _ => none) fun x16 => (if (gi v p0 15) < (gi v p0 1) then (gr S p0 2).bind fun r17 => grd (kin S r17 = some (1, 4)) <| grd (vp_in (gi v p0 15) (alen S r17)) <| K_lw_isSame_157  S v p0 p1 x16 (gi v r17 (Int32.toNatClampNeg (gi v p0 15))) else K_lw_isSame_157  S v p0 p1 x16 (J (-1))) else some ((J 0))) else some ((J 0)))
theorem sK_lw_isSame_113   (S : shp) (v : vl) (p0 : Nat) (p1 : Nat) (s0 : Int32) (s1 : Int32) : SimK B_lw_isSame 113 [some (.ref p0), some (.ref p1)] [.int s1, .int s0] S v (K_lw_isSame_113   S v p0 p1 s0 s1) (ρri S v) := by
  unfold K_lw_isSame_113
  refine sim_ne (o := 47) (tg := 160) (f := 116) (by decide +kernel) rfl rfl (fun _ => ?_) (fun _ => ?_)
  · refine sim_seg [(.aload_n 1, 0, 0, 0), (.iconst 4, 0, 0, 4)] [] (q := 118) (L' := [some (.ref p0), some (.ref p1)]) (st' := [.int (J 4), .ref p1]) (v1 := v) (by decide +kernel) rfl trivial ?_
    refine sim_grd fun h13 => ?_
    refine sc_xi (pc3 := 121) (cf_V (idx := 190) (ci := 5) [.int (J 4)] m_gc_state (by decide) ⟨by decide, by decide⟩ (List.mem_of_getElem? (i := 843) (by decide +kernel)) rfl (Nat.le_of_ble_eq_true rfl) h13 (by decide +kernel) (Nat.le_of_ble_eq_true rfl) rfl) (ok_gc_state p1 (J 4) S v) rfl rfl (fun k0 b hb => by cases hb) (fun x14 => ?_)
    refine sim_grd fun h15 => ?_
    refine sim_seg [(.aload_n 0, 0, 0, 0), (.getfield 150, 6, 8, 0)] [] (q := 125) (L' := [some (.ref p0), some (.ref p1)]) (st' := [.int (gi v p0 8), .int x14]) (v1 := v) (by decide +kernel) rfl ⟨h15, trivial⟩ ?_
    refine sim_ne (o := 35) (tg := 160) (f := 128) (by decide +kernel) rfl rfl (fun _ => ?_) (fun _ => ?_)
    · refine sim_seg [(.aload_n 1, 0, 0, 0), (.iconst 5, 0, 0, 5)] [] (q := 130) (L' := [some (.ref p0), some (.ref p1)]) (st' := [.int (J 5), .ref p1]) (v1 := v) (by decide +kernel) rfl trivial ?_
      refine sc_xi (pc3 := 133) (cf_V (idx := 190) (ci := 5) [.int (J 5)] m_gc_state (by decide) ⟨by decide, by decide⟩ (List.mem_of_getElem? (i := 843) (by decide +kernel)) rfl (Nat.le_of_ble_eq_true rfl) h13 (by decide +kernel) (Nat.le_of_ble_eq_true rfl) rfl) (ok_gc_state p1 (J 5) S v) rfl rfl (fun k0 b hb => by cases hb) (fun x16 => ?_)
      refine sim_seg [(.aload_n 0, 0, 0, 0), (.getfield 122, 6, 15, 0), (.aload_n 0, 0, 0, 0), (.getfield 70, 6, 1, 0)] [] (q := 141) (L' := [some (.ref p0), some (.ref p1)]) (st' := [.int (gi v p0 1), .int (gi v p0 15), .int x16]) (v1 := v) (by decide +kernel) rfl ⟨h15, h15, trivial⟩ ?_
      refine sim_ge (o := 15) (tg := 156) (f := 144) (by decide +kernel) rfl rfl (fun _ => ?_) (fun _ => ?_)
      · refine sim_bind fun r17 h18 => ?_
        refine sim_grd fun h19 => ?_
        refine sim_grd fun h20 => ?_
        refine sim_seg [(.aload_n 0, 0, 0, 0), (.getfield 27, 6, 2, 0), (.aload_n 0, 0, 0, 0), (.getfield 122, 6, 15, 0), (.iaload, 0, 0, 0), (.goto 4, 0, 0, 0)] [r17] (q := 157) (L' := [some (.ref p0), some (.ref p1)]) (st' := [.int (gi v r17 (Int32.toNatClampNeg (gi v p0 15))), .int x16]) (v1 := v) (by decide +kernel) rfl ⟨⟨h15, h18⟩, h15, ⟨(Or.inl (kin_alen h19)), h20⟩, trivial⟩ ?_
        exact sK_lw_isSame_157 S v p0 p1 x16 (gi v r17 (Int32.toNatClampNeg (gi v p0 15)))
      · refine sim_seg [(.iconst (-1), 0, 0, (-1))] [] (q := 157) (L' := [some (.ref p0), some (.ref p1)]) (st' := [.int (J (-1)), .int x16]) (v1 := v) (by decide +kernel) rfl trivial ?_
        exact sK_lw_isSame_157 S v p0 p1 x16 (J (-1))
    · refine sim_seg [(.iconst 0, 0, 0, 0)] [] (q := 161) (L' := [some (.ref p0), some (.ref p1)]) (st' := [.int (J 0)]) (v1 := v) (by decide +kernel) rfl trivial ?_
      exact sim_iret (by decide +kernel) rfl (by decide) rfl
  · refine sim_seg [(.iconst 0, 0, 0, 0)] [] (q := 161) (L' := [some (.ref p0), some (.ref p1)]) (st' := [.int (J 0)]) (v1 := v) (by decide +kernel) rfl trivial ?_
    exact sim_iret (by decide +kernel) rfl (by decide) rfl
noncomputable def F_lw_isSame (a0 : Nat) (a1 : Nat) (S : shp) (v : vl) : Option Int32 :=
  grd (kin S a1 = some (0, 5)) <| bx (F_gc_count a1 (J 0) S v) (fun _ => none) fun x2 => grd (kin S a0 = some (0, 6)) <| (if x2 = (gi v a0 4) then bx (F_gc_count a1 (J 1) S v) (fun _ => none) fun x4 => (if x4 = (gi v a0 5) then bx (F_gc_count a1 (J 2) S v) (fun _ => none) fun x5 => (if x5 = (gi v a0 6) then bx (F_gc_count a1 (J 3) S v) (fun _ => none) fun x6 => (if x6 = (gi v a0 7) then bx (F_gc_count a1 (J 5) S v) (fun _ => none) fun x7 => (if x7 = (gi v a0 15) then (F_gc_addsUp a1 S v).bind fun x8 => (if x8 = (J 0) then some ((J 0)) else bx (F_gc_state a1 (J 0) S v) (fun _ => none) fun x9 => (F_lw_nextClock a0 S v).bind fun x10 => (if x9 = x10 then bx (F_gc_state a1 (J 2) S v) (fun _ => none) fun x11 => (if x11 = (gi v a0 18) then bx (F_gc_state a1 (J 3) S v) (fun _ => none) fun x12 => (if (gi v a0 18) = (J 0) then K_lw_isSame_113  S v a0 a1 x12 (J (-1)) else (F_lw_nextEdge a0 S v).bind fun x28 => K_lw_isSame_113  S v a0 a1 x12 x28) else some ((J 0))) else some ((J 0)))) else some ((J 0))) else some ((J 0))) else some ((J 0))) else some ((J 0))) else some ((J 0)))
theorem ok_lw_isSame (a0 : Nat) (a1 : Nat) (S : shp) (v : vl) : SimK B_lw_isSame 0 (entB (bN B_lw_isSame) [.ref a0, .ref a1]) [] S v (F_lw_isSame a0 a1 S v) (ρri S v) := by
  show SimK B_lw_isSame 0 [some (.ref a0), some (.ref a1)] [] S v (F_lw_isSame a0 a1 S v) _
  unfold F_lw_isSame
  refine sim_seg [(.aload_n 1, 0, 0, 0), (.iconst 0, 0, 0, 0)] [] (q := 2) (L' := [some (.ref a0), some (.ref a1)]) (st' := [.int (J 0), .ref a1]) (v1 := v) (by decide +kernel) rfl trivial ?_
  refine sim_grd fun h1 => ?_
  refine sc_xi (pc3 := 5) (cf_V (idx := 175) (ci := 5) [.int (J 0)] m_gc_count (by decide) ⟨by decide, by decide⟩ (List.mem_of_getElem? (i := 768) (by decide +kernel)) rfl (Nat.le_of_ble_eq_true rfl) h1 (by decide +kernel) (Nat.le_of_ble_eq_true rfl) rfl) (ok_gc_count a1 (J 0) S v) rfl rfl (fun k0 b hb => by cases hb) (fun x2 => ?_)
  refine sim_grd fun h3 => ?_
  refine sim_seg [(.aload_n 0, 0, 0, 0), (.getfield 138, 6, 4, 0)] [] (q := 9) (L' := [some (.ref a0), some (.ref a1)]) (st' := [.int (gi v a0 4), .int x2]) (v1 := v) (by decide +kernel) rfl ⟨h3, trivial⟩ ?_
  refine sim_ne (o := 58) (tg := 67) (f := 12) (by decide +kernel) rfl rfl (fun _ => ?_) (fun _ => ?_)
  · refine sim_seg [(.aload_n 1, 0, 0, 0), (.iconst 1, 0, 0, 1)] [] (q := 14) (L' := [some (.ref a0), some (.ref a1)]) (st' := [.int (J 1), .ref a1]) (v1 := v) (by decide +kernel) rfl trivial ?_
    refine sc_xi (pc3 := 17) (cf_V (idx := 175) (ci := 5) [.int (J 1)] m_gc_count (by decide) ⟨by decide, by decide⟩ (List.mem_of_getElem? (i := 768) (by decide +kernel)) rfl (Nat.le_of_ble_eq_true rfl) h1 (by decide +kernel) (Nat.le_of_ble_eq_true rfl) rfl) (ok_gc_count a1 (J 1) S v) rfl rfl (fun k0 b hb => by cases hb) (fun x4 => ?_)
    refine sim_seg [(.aload_n 0, 0, 0, 0), (.getfield 97, 6, 5, 0)] [] (q := 21) (L' := [some (.ref a0), some (.ref a1)]) (st' := [.int (gi v a0 5), .int x4]) (v1 := v) (by decide +kernel) rfl ⟨h3, trivial⟩ ?_
    refine sim_ne (o := 46) (tg := 67) (f := 24) (by decide +kernel) rfl rfl (fun _ => ?_) (fun _ => ?_)
    · refine sim_seg [(.aload_n 1, 0, 0, 0), (.iconst 2, 0, 0, 2)] [] (q := 26) (L' := [some (.ref a0), some (.ref a1)]) (st' := [.int (J 2), .ref a1]) (v1 := v) (by decide +kernel) rfl trivial ?_
      refine sc_xi (pc3 := 29) (cf_V (idx := 175) (ci := 5) [.int (J 2)] m_gc_count (by decide) ⟨by decide, by decide⟩ (List.mem_of_getElem? (i := 768) (by decide +kernel)) rfl (Nat.le_of_ble_eq_true rfl) h1 (by decide +kernel) (Nat.le_of_ble_eq_true rfl) rfl) (ok_gc_count a1 (J 2) S v) rfl rfl (fun k0 b hb => by cases hb) (fun x5 => ?_)
      refine sim_seg [(.aload_n 0, 0, 0, 0), (.getfield 147, 6, 6, 0)] [] (q := 33) (L' := [some (.ref a0), some (.ref a1)]) (st' := [.int (gi v a0 6), .int x5]) (v1 := v) (by decide +kernel) rfl ⟨h3, trivial⟩ ?_
      refine sim_ne (o := 34) (tg := 67) (f := 36) (by decide +kernel) rfl rfl (fun _ => ?_) (fun _ => ?_)
      · refine sim_seg [(.aload_n 1, 0, 0, 0), (.iconst 3, 0, 0, 3)] [] (q := 38) (L' := [some (.ref a0), some (.ref a1)]) (st' := [.int (J 3), .ref a1]) (v1 := v) (by decide +kernel) rfl trivial ?_
        refine sc_xi (pc3 := 41) (cf_V (idx := 175) (ci := 5) [.int (J 3)] m_gc_count (by decide) ⟨by decide, by decide⟩ (List.mem_of_getElem? (i := 768) (by decide +kernel)) rfl (Nat.le_of_ble_eq_true rfl) h1 (by decide +kernel) (Nat.le_of_ble_eq_true rfl) rfl) (ok_gc_count a1 (J 3) S v) rfl rfl (fun k0 b hb => by cases hb) (fun x6 => ?_)
        refine sim_seg [(.aload_n 0, 0, 0, 0), (.getfield 153, 6, 7, 0)] [] (q := 45) (L' := [some (.ref a0), some (.ref a1)]) (st' := [.int (gi v a0 7), .int x6]) (v1 := v) (by decide +kernel) rfl ⟨h3, trivial⟩ ?_
        refine sim_ne (o := 22) (tg := 67) (f := 48) (by decide +kernel) rfl rfl (fun _ => ?_) (fun _ => ?_)
        · refine sim_seg [(.aload_n 1, 0, 0, 0), (.iconst 5, 0, 0, 5)] [] (q := 50) (L' := [some (.ref a0), some (.ref a1)]) (st' := [.int (J 5), .ref a1]) (v1 := v) (by decide +kernel) rfl trivial ?_
          refine sc_xi (pc3 := 53) (cf_V (idx := 175) (ci := 5) [.int (J 5)] m_gc_count (by decide) ⟨by decide, by decide⟩ (List.mem_of_getElem? (i := 768) (by decide +kernel)) rfl (Nat.le_of_ble_eq_true rfl) h1 (by decide +kernel) (Nat.le_of_ble_eq_true rfl) rfl) (ok_gc_count a1 (J 5) S v) rfl rfl (fun k0 b hb => by cases hb) (fun x7 => ?_)
          refine sim_seg [(.aload_n 0, 0, 0, 0), (.getfield 122, 6, 15, 0)] [] (q := 57) (L' := [some (.ref a0), some (.ref a1)]) (st' := [.int (gi v a0 15), .int x7]) (v1 := v) (by decide +kernel) rfl ⟨h3, trivial⟩ ?_
          refine sim_ne (o := 10) (tg := 67) (f := 60) (by decide +kernel) rfl rfl (fun _ => ?_) (fun _ => ?_)
          · refine sim_seg [(.aload_n 1, 0, 0, 0)] [] (q := 61) (L' := [some (.ref a0), some (.ref a1)]) (st' := [.ref a1]) (v1 := v) (by decide +kernel) rfl trivial ?_
            refine sc_ri (pc3 := 64) (cf_V (idx := 186) (ci := 5) [] m_gc_addsUp (by decide) ⟨by decide, by decide⟩ (List.mem_of_getElem? (i := 835) (by decide +kernel)) rfl (Nat.le_of_ble_eq_true rfl) h1 (by decide +kernel) (Nat.le_of_ble_eq_true rfl) rfl) (ok_gc_addsUp a1 S v) rfl (fun x8 => ?_)
            refine sim_ne0 (o := 5) (tg := 69) (f := 67) (by decide +kernel) rfl rfl (fun _ => ?_) (fun _ => ?_)
            · refine sim_seg [(.iconst 0, 0, 0, 0)] [] (q := 68) (L' := [some (.ref a0), some (.ref a1)]) (st' := [.int (J 0)]) (v1 := v) (by decide +kernel) rfl trivial ?_
              exact sim_iret (by decide +kernel) rfl (by decide) rfl
            · refine sim_seg [(.aload_n 1, 0, 0, 0), (.iconst 0, 0, 0, 0)] [] (q := 71) (L' := [some (.ref a0), some (.ref a1)]) (st' := [.int (J 0), .ref a1]) (v1 := v) (by decide +kernel) rfl trivial ?_
              refine sc_xi (pc3 := 74) (cf_V (idx := 190) (ci := 5) [.int (J 0)] m_gc_state (by decide) ⟨by decide, by decide⟩ (List.mem_of_getElem? (i := 843) (by decide +kernel)) rfl (Nat.le_of_ble_eq_true rfl) h1 (by decide +kernel) (Nat.le_of_ble_eq_true rfl) rfl) (ok_gc_state a1 (J 0) S v) rfl rfl (fun k0 b hb => by cases hb) (fun x9 => ?_)
              refine sim_seg [(.aload_n 0, 0, 0, 0)] [] (q := 75) (L' := [some (.ref a0), some (.ref a1)]) (st' := [.ref a0, .int x9]) (v1 := v) (by decide +kernel) rfl trivial ?_
              refine sc_ri (pc3 := 78) (cf_V (idx := 128) (ci := 6) [] m_lw_nextClock (by decide) ⟨by decide, by decide⟩ (List.mem_of_getElem? (i := 851) (by decide +kernel)) rfl (Nat.le_of_ble_eq_true rfl) h3 (by decide +kernel) (Nat.le_of_ble_eq_true rfl) rfl) (ok_lw_nextClock a0 S v) rfl (fun x10 => ?_)
              refine sim_ne (o := 82) (tg := 160) (f := 81) (by decide +kernel) rfl rfl (fun _ => ?_) (fun _ => ?_)
              · refine sim_seg [(.aload_n 1, 0, 0, 0), (.iconst 2, 0, 0, 2)] [] (q := 83) (L' := [some (.ref a0), some (.ref a1)]) (st' := [.int (J 2), .ref a1]) (v1 := v) (by decide +kernel) rfl trivial ?_
                refine sc_xi (pc3 := 86) (cf_V (idx := 190) (ci := 5) [.int (J 2)] m_gc_state (by decide) ⟨by decide, by decide⟩ (List.mem_of_getElem? (i := 843) (by decide +kernel)) rfl (Nat.le_of_ble_eq_true rfl) h1 (by decide +kernel) (Nat.le_of_ble_eq_true rfl) rfl) (ok_gc_state a1 (J 2) S v) rfl rfl (fun k0 b hb => by cases hb) (fun x11 => ?_)
                refine sim_seg [(.aload_n 0, 0, 0, 0), (.getfield 112, 6, 18, 0)] [] (q := 90) (L' := [some (.ref a0), some (.ref a1)]) (st' := [.int (gi v a0 18), .int x11]) (v1 := v) (by decide +kernel) rfl ⟨h3, trivial⟩ ?_
                refine sim_ne (o := 70) (tg := 160) (f := 93) (by decide +kernel) rfl rfl (fun _ => ?_) (fun _ => ?_)
                · refine sim_seg [(.aload_n 1, 0, 0, 0), (.iconst 3, 0, 0, 3)] [] (q := 95) (L' := [some (.ref a0), some (.ref a1)]) (st' := [.int (J 3), .ref a1]) (v1 := v) (by decide +kernel) rfl trivial ?_
                  refine sc_xi (pc3 := 98) (cf_V (idx := 190) (ci := 5) [.int (J 3)] m_gc_state (by decide) ⟨by decide, by decide⟩ (List.mem_of_getElem? (i := 843) (by decide +kernel)) rfl (Nat.le_of_ble_eq_true rfl) h1 (by decide +kernel) (Nat.le_of_ble_eq_true rfl) rfl) (ok_gc_state a1 (J 3) S v) rfl rfl (fun k0 b hb => by cases hb) (fun x12 => ?_)
                  refine sim_seg [(.aload_n 0, 0, 0, 0), (.getfield 112, 6, 18, 0)] [] (q := 102) (L' := [some (.ref a0), some (.ref a1)]) (st' := [.int (gi v a0 18), .int x12]) (v1 := v) (by decide +kernel) rfl ⟨h3, trivial⟩ ?_
                  refine sim_ne0 (o := 7) (tg := 109) (f := 105) (by decide +kernel) rfl rfl (fun _ => ?_) (fun _ => ?_)
                  · refine sim_seg [(.iconst (-1), 0, 0, (-1)), (.goto 7, 0, 0, 0)] [] (q := 113) (L' := [some (.ref a0), some (.ref a1)]) (st' := [.int (J (-1)), .int x12]) (v1 := v) (by decide +kernel) rfl trivial ?_
                    exact sK_lw_isSame_113 S v a0 a1 x12 (J (-1))
                  · refine sim_seg [(.aload_n 0, 0, 0, 0)] [] (q := 110) (L' := [some (.ref a0), some (.ref a1)]) (st' := [.ref a0, .int x12]) (v1 := v) (by decide +kernel) rfl trivial ?_
                    refine sc_ri (pc3 := 113) (cf_V (idx := 131) (ci := 6) [] m_lw_nextEdge (by decide) ⟨by decide, by decide⟩ (List.mem_of_getElem? (i := 859) (by decide +kernel)) rfl (Nat.le_of_ble_eq_true rfl) h3 (by decide +kernel) (Nat.le_of_ble_eq_true rfl) rfl) (ok_lw_nextEdge a0 S v) rfl (fun x28 => ?_)
                    exact sK_lw_isSame_113 S v a0 a1 x12 x28
                · refine sim_seg [(.iconst 0, 0, 0, 0)] [] (q := 161) (L' := [some (.ref a0), some (.ref a1)]) (st' := [.int (J 0)]) (v1 := v) (by decide +kernel) rfl trivial ?_
                  exact sim_iret (by decide +kernel) rfl (by decide) rfl
              · refine sim_seg [(.iconst 0, 0, 0, 0)] [] (q := 161) (L' := [some (.ref a0), some (.ref a1)]) (st' := [.int (J 0)]) (v1 := v) (by decide +kernel) rfl trivial ?_
                exact sim_iret (by decide +kernel) rfl (by decide) rfl
          · refine sim_seg [(.iconst 0, 0, 0, 0)] [] (q := 68) (L' := [some (.ref a0), some (.ref a1)]) (st' := [.int (J 0)]) (v1 := v) (by decide +kernel) rfl trivial ?_
            exact sim_iret (by decide +kernel) rfl (by decide) rfl
        · refine sim_seg [(.iconst 0, 0, 0, 0)] [] (q := 68) (L' := [some (.ref a0), some (.ref a1)]) (st' := [.int (J 0)]) (v1 := v) (by decide +kernel) rfl trivial ?_
          exact sim_iret (by decide +kernel) rfl (by decide) rfl
      · refine sim_seg [(.iconst 0, 0, 0, 0)] [] (q := 68) (L' := [some (.ref a0), some (.ref a1)]) (st' := [.int (J 0)]) (v1 := v) (by decide +kernel) rfl trivial ?_
        exact sim_iret (by decide +kernel) rfl (by decide) rfl
    · refine sim_seg [(.iconst 0, 0, 0, 0)] [] (q := 68) (L' := [some (.ref a0), some (.ref a1)]) (st' := [.int (J 0)]) (v1 := v) (by decide +kernel) rfl trivial ?_
      exact sim_iret (by decide +kernel) rfl (by decide) rfl
  · refine sim_seg [(.iconst 0, 0, 0, 0)] [] (q := 68) (L' := [some (.ref a0), some (.ref a1)]) (st' := [.int (J 0)]) (v1 := v) (by decide +kernel) rfl trivial ?_
    exact sim_iret (by decide +kernel) rfl (by decide) rfl
def B_lw_told : bd := (⟨"GateCounterLaw", "told", "(LGateCounter;Ljava/lang/String;)V"⟩, method_3_code, 5, none, [], 6, 4)
theorem m_lw_told : mS B_lw_told 2 := ⟨⟨⟨by decide +kernel, Or.inl rfl⟩, rfl, (List.mem_of_getElem? (i := 518) (by decide +kernel)), by decide +kernel, (List.mem_of_getElem? (i := 44) (by decide +kernel)), ⟨by decide, by decide⟩, by decide⟩, rfl, (by unfold nar; decide +kernel), (List.mem_of_getElem? (i := 517) (by decide +kernel))⟩
noncomputable def Y_lw_told_17 (N : Nat) (i2 : shp → vl → Nat → Nat → Int32 → Option (shp × vl)) (i17 : shp → vl → Nat → Nat → Int32 → Nat → Int32 → Option (shp × vl))  (S : shp) (v : vl) (p0 : Nat) (p1 : Nat) (p2 : Int32) (p3 : Nat) (p4 : Int32) : Option (shp × vl) :=
  (if p4 < (J 20) then grd ((kin S p3 = some (1, alen S p3) ∨ kin S p3 = some (11, alen S p3))) <| grd (vp_in (p4 / (J 4)) (alen S p3)) <| lt ((gi v p3 (Int32.toNatClampNeg (p4 / (J 4)))) <<< ((J 8) &&& 31)) fun x11 => grd (kin S p1 = some (0, 8)) <| (F_js_length_m p1 S v).bind fun x13 => (if (p2 + p4) < x13 then (F_js_charAt_m p1 (p2 + p4) S v).bind fun x14 => grd (kin S p3 = some (1, alen S p3)) <| lt (si v p3 (Int32.toNatClampNeg (p4 / (J 4))) (x11 ||| x14)) fun w16 => i17 S w16 p0 p1 p2 p3 (p4 + (J 1)) else grd (kin S p3 = some (1, alen S p3)) <| lt (si v p3 (Int32.toNatClampNeg (p4 / (J 4))) (x11 ||| (J 32))) fun w18 => i17 S w18 p0 p1 p2 p3 (p4 + (J 1))) else grd ((kin S p3 = some (1, alen S p3) ∨ kin S p3 = some (11, alen S p3))) <| grd (vp_in (J 0) (alen S p3)) <| grd (vp_in (J 1) (alen S p3)) <| grd (vp_in (J 2) (alen S p3)) <| grd (vp_in (J 3) (alen S p3)) <| grd (vp_in (J 4) (alen S p3)) <| grd (kin S p0 = some (0, 5)) <| (F_gc_appendInput N p0 (gi v p3 0) (gi v p3 1) (gi v p3 2) (gi v p3 3) (gi v p3 4) S v).bind fun (x26, w27) => i2 S w27 p0 p1 (p2 + (J 20)))
noncomputable def K_lw_told_17 (N : Nat) (i2 : shp → vl → Nat → Nat → Int32 → Option (shp × vl)) (n : Nat)  : shp → vl → Nat → Nat → Int32 → Nat → Int32 → Option (shp × vl) :=
  Nat.rec (motive := fun _ => shp → vl → Nat → Nat → Int32 → Nat → Int32 → Option (shp × vl)) (fun _ _ _ _ _ _ _ => none) (fun _ i => Y_lw_told_17 N i2 i ) n
theorem sY_lw_told_17 (N : Nat) (i2 : shp → vl → Nat → Nat → Int32 → Option (shp × vl)) (i17 : shp → vl → Nat → Nat → Int32 → Nat → Int32 → Option (shp × vl))  (j2 : ∀ (S : shp) (v : vl) (p0 : Nat) (p1 : Nat) (p2 : Int32), SimK B_lw_told 2 [some (.ref p0), some (.ref p1), some (.int p2), none, none] [] S v (i2 S v p0 p1 p2) (ρgv)) (j17 : ∀ (S : shp) (v : vl) (p0 : Nat) (p1 : Nat) (p2 : Int32) (p3 : Nat) (p4 : Int32), SimK B_lw_told 17 [some (.ref p0), some (.ref p1), some (.int p2), some (.ref p3), some (.int p4)] [] S v (i17 S v p0 p1 p2 p3 p4) (ρgv)) (S : shp) (v : vl) (p0 : Nat) (p1 : Nat) (p2 : Int32) (p3 : Nat) (p4 : Int32) : SimK B_lw_told 17 [some (.ref p0), some (.ref p1), some (.int p2), some (.ref p3), some (.int p4)] [] S v (Y_lw_told_17 N i2 i17  S v p0 p1 p2 p3 p4) (ρgv) := by
  unfold Y_lw_told_17
  refine sim_seg [(.iload 4, 0, 0, 0), (.bipush 20, 0, 0, 20)] [] (q := 21) (L' := [some (.ref p0), some (.ref p1), some (.int p2), some (.ref p3), some (.int p4)]) (st' := [.int (J 20), .int p4]) (v1 := v) (by decide +kernel) rfl trivial ?_
  refine sim_ge (o := 49) (tg := 70) (f := 24) (by decide +kernel) rfl rfl (fun _ => ?_) (fun _ => ?_)
  · refine sim_grd fun h9 => ?_
    refine sim_grd fun h10 => ?_
    refine sim_seg [(.aload_n 3, 0, 0, 0), (.iload 4, 0, 0, 0), (.iconst 4, 0, 0, 4), (.idiv, 0, 0, 0), (.aload_n 3, 0, 0, 0), (.iload 4, 0, 0, 0), (.iconst 4, 0, 0, 4), (.idiv, 0, 0, 0), (.iaload, 0, 0, 0), (.bipush 8, 0, 0, 8), (.ishl, 0, 0, 0), (.iload_n 2, 0, 0, 0)] [] (q := 39) (L' := [some (.ref p0), some (.ref p1), some (.int p2), some (.ref p3), some (.int p4)]) (st' := [.int p2, .int ((gi v p3 (Int32.toNatClampNeg (p4 / (J 4)))) <<< ((J 8) &&& 31)), .int (p4 / (J 4)), .ref p3]) (v1 := v) (by decide +kernel) rfl ⟨(by decide), (by decide), ⟨h9, h10⟩, trivial⟩ ?_
    refine sim_nm ((gi v p3 (Int32.toNatClampNeg (p4 / (J 4)))) <<< ((J 8) &&& 31)) (fun x11 => [some (.ref p0), some (.ref p1), some (.int p2), some (.ref p3), some (.int p4)]) (fun x11 => [.int p2, .int x11, .int (p4 / (J 4)), .ref p3]) (fun x11 => ?_) rfl rfl
    refine sim_seg [(.iload 4, 0, 0, 0), (.iadd, 0, 0, 0), (.aload_n 1, 0, 0, 0)] [] (q := 43) (L' := [some (.ref p0), some (.ref p1), some (.int p2), some (.ref p3), some (.int p4)]) (st' := [.ref p1, .int (p2 + p4), .int x11, .int (p4 / (J 4)), .ref p3]) (v1 := v) (by decide +kernel) rfl trivial ?_
    refine sim_grd fun h12 => ?_
    refine sc_ri (pc3 := 46) (cf_V (idx := 1) (ci := 8) [] m_js_length_m (by decide) ⟨by decide, by decide⟩ (List.mem_of_getElem? (i := 519) (by decide +kernel)) rfl (Nat.le_of_ble_eq_true rfl) h12 (by decide +kernel) (Nat.le_of_ble_eq_true rfl) rfl) (ok_js_length_m p1 S v) rfl (fun x13 => ?_)
    refine sim_ge (o := 14) (tg := 60) (f := 49) (by decide +kernel) rfl rfl (fun _ => ?_) (fun _ => ?_)
    · refine sim_seg [(.aload_n 1, 0, 0, 0), (.iload_n 2, 0, 0, 0), (.iload 4, 0, 0, 0), (.iadd, 0, 0, 0)] [] (q := 54) (L' := [some (.ref p0), some (.ref p1), some (.int p2), some (.ref p3), some (.int p4)]) (st' := [.int (p2 + p4), .ref p1, .int x11, .int (p4 / (J 4)), .ref p3]) (v1 := v) (by decide +kernel) rfl trivial ?_
      refine sc_ri (pc3 := 57) (cf_V (idx := 7) (ci := 8) [.int (p2 + p4)] m_js_charAt_m (by decide) ⟨by decide, by decide⟩ (List.mem_of_getElem? (i := 520) (by decide +kernel)) rfl (Nat.le_of_ble_eq_true rfl) h12 (by decide +kernel) (Nat.le_of_ble_eq_true rfl) rfl) (ok_js_charAt_m p1 (p2 + p4) S v) rfl (fun x14 => ?_)
      refine sim_grd fun h15 => ?_
      refine sim_seg [(.goto 5, 0, 0, 0), (.ior, 0, 0, 0), (.iastore, 0, 0, 0), (.iinc 4 1, 0, 0, 1)] [] (q := 67) (L' := [some (.ref p0), some (.ref p1), some (.int p2), some (.ref p3), some (.int (p4 + (J 1)))]) (st' := []) (v1 := (si v p3 (Int32.toNatClampNeg (p4 / (J 4))) (x11 ||| x14))) (by decide +kernel) rfl ⟨⟨h15, h10⟩, trivial⟩ ?_
      refine sim_lt (x := (si v p3 (Int32.toNatClampNeg (p4 / (J 4))) (x11 ||| x14))) ?_
      generalize (si v p3 (Int32.toNatClampNeg (p4 / (J 4))) (x11 ||| x14)) = w16
      refine sim_seg [(.goto (-50), 0, 0, 0)] [] (q := 17) (L' := [some (.ref p0), some (.ref p1), some (.int p2), some (.ref p3), some (.int (p4 + (J 1)))]) (st' := []) (v1 := w16) (by decide +kernel) rfl trivial ?_
      exact j17 S w16 p0 p1 p2 p3 (p4 + (J 1))
    · refine sim_grd fun h17 => ?_
      refine sim_seg [(.bipush 32, 0, 0, 32), (.ior, 0, 0, 0), (.iastore, 0, 0, 0), (.iinc 4 1, 0, 0, 1)] [] (q := 67) (L' := [some (.ref p0), some (.ref p1), some (.int p2), some (.ref p3), some (.int (p4 + (J 1)))]) (st' := []) (v1 := (si v p3 (Int32.toNatClampNeg (p4 / (J 4))) (x11 ||| (J 32)))) (by decide +kernel) rfl ⟨⟨h17, h10⟩, trivial⟩ ?_
      refine sim_lt (x := (si v p3 (Int32.toNatClampNeg (p4 / (J 4))) (x11 ||| (J 32)))) ?_
      generalize (si v p3 (Int32.toNatClampNeg (p4 / (J 4))) (x11 ||| (J 32))) = w18
      refine sim_seg [(.goto (-50), 0, 0, 0)] [] (q := 17) (L' := [some (.ref p0), some (.ref p1), some (.int p2), some (.ref p3), some (.int (p4 + (J 1)))]) (st' := []) (v1 := w18) (by decide +kernel) rfl trivial ?_
      exact j17 S w18 p0 p1 p2 p3 (p4 + (J 1))
  · refine sim_grd fun h19 => ?_
    refine sim_grd fun h20 => ?_
    refine sim_grd fun h21 => ?_
    refine sim_grd fun h22 => ?_
    refine sim_seg [(.aload_n 0, 0, 0, 0), (.aload_n 3, 0, 0, 0), (.iconst 0, 0, 0, 0), (.iaload, 0, 0, 0), (.aload_n 3, 0, 0, 0), (.iconst 1, 0, 0, 1), (.iaload, 0, 0, 0), (.aload_n 3, 0, 0, 0), (.iconst 2, 0, 0, 2), (.iaload, 0, 0, 0), (.aload_n 3, 0, 0, 0), (.iconst 3, 0, 0, 3)] [] (q := 82) (L' := [some (.ref p0), some (.ref p1), some (.int p2), some (.ref p3), some (.int p4)]) (st' := [.int (J 3), .ref p3, .int (gi v p3 2), .int (gi v p3 1), .int (gi v p3 0), .ref p0]) (v1 := v) (by decide +kernel) rfl ⟨⟨h19, h20⟩, ⟨h19, h21⟩, ⟨h19, h22⟩, trivial⟩ ?_
    refine sim_grd fun h23 => ?_
    refine sim_grd fun h24 => ?_
    refine sim_seg [(.iaload, 0, 0, 0), (.aload_n 3, 0, 0, 0), (.iconst 4, 0, 0, 4), (.iaload, 0, 0, 0)] [] (q := 86) (L' := [some (.ref p0), some (.ref p1), some (.int p2), some (.ref p3), some (.int p4)]) (st' := [.int (gi v p3 4), .int (gi v p3 3), .int (gi v p3 2), .int (gi v p3 1), .int (gi v p3 0), .ref p0]) (v1 := v) (by decide +kernel) rfl ⟨⟨h19, h23⟩, ⟨h19, h24⟩, trivial⟩ ?_
    refine sim_grd fun h25 => ?_
    refine sc_pi (pc3 := 89) (cf_V (idx := 11) (ci := 5) [.int (gi v p3 0), .int (gi v p3 1), .int (gi v p3 2), .int (gi v p3 3), .int (gi v p3 4)] m_gc_appendInput (by decide) ⟨by decide, by decide⟩ (List.mem_of_getElem? (i := 521) (by decide +kernel)) rfl (Nat.le_of_ble_eq_true rfl) h25 (by decide +kernel) (Nat.le_of_ble_eq_true rfl) rfl) (ok_gc_appendInput N p0 (gi v p3 0) (gi v p3 1) (gi v p3 2) (gi v p3 3) (gi v p3 4) S v) rfl (fun x26 w27 => ?_)
    refine sim_seg [(.pop, 0, 0, 0), (.iinc 2 20, 0, 0, 20)] [] (q := 93) (L' := [some (.ref p0), some (.ref p1), some (.int (p2 + (J 20))), some (.ref p3), some (.int p4)]) (st' := []) (v1 := w27) (by decide +kernel) rfl trivial ?_
    refine sim_seg [(.goto (-91), 0, 0, 0)] [] (q := 2) (L' := [some (.ref p0), some (.ref p1), some (.int (p2 + (J 20))), some (.ref p3), some (.int p4)]) (st' := []) (v1 := w27) (by decide +kernel) rfl trivial ?_
    exact sim_wk (L0 := [some (.ref p0), some (.ref p1), some (.int (p2 + (J 20))), none, none]) ⟨rfl, rfl, rfl, trivial⟩ (j2 S w27 p0 p1 (p2 + (J 20)))
theorem sR_lw_told_17 (N : Nat) (i2 : shp → vl → Nat → Nat → Int32 → Option (shp × vl))  (j2 : ∀ (S : shp) (v : vl) (p0 : Nat) (p1 : Nat) (p2 : Int32), SimK B_lw_told 2 [some (.ref p0), some (.ref p1), some (.int p2), none, none] [] S v (i2 S v p0 p1 p2) (ρgv)) (n : Nat) : ∀ (S : shp) (v : vl) (p0 : Nat) (p1 : Nat) (p2 : Int32) (p3 : Nat) (p4 : Int32), SimK B_lw_told 17 [some (.ref p0), some (.ref p1), some (.int p2), some (.ref p3), some (.int p4)] [] S v (K_lw_told_17 N i2 n  S v p0 p1 p2 p3 p4) (ρgv) := by
  induction n with
  | zero => intro S v p0 p1 p2 p3 p4; exact sim_none
  | succ k ih => intro S v p0 p1 p2 p3 p4; exact sY_lw_told_17 N  i2 _  j2 ih S v p0 p1 p2 p3 p4
theorem sK_lw_told_17 (N : Nat) (i2 : shp → vl → Nat → Nat → Int32 → Option (shp × vl)) (j2 : ∀ (S : shp) (v : vl) (p0 : Nat) (p1 : Nat) (p2 : Int32), SimK B_lw_told 2 [some (.ref p0), some (.ref p1), some (.int p2), none, none] [] S v (i2 S v p0 p1 p2) (ρgv)) (n : Nat) (S : shp) (v : vl) (p0 : Nat) (p1 : Nat) (p2 : Int32) (p3 : Nat) (p4 : Int32) : SimK B_lw_told 17 [some (.ref p0), some (.ref p1), some (.int p2), some (.ref p3), some (.int p4)] [] S v (K_lw_told_17 N i2 n  S v p0 p1 p2 p3 p4) (ρgv) := sR_lw_told_17 N  i2 j2 n  S v p0 p1 p2 p3 p4
noncomputable def Y_lw_told_2 (N : Nat)  (i2 : shp → vl → Nat → Nat → Int32 → Option (shp × vl))  (S : shp) (v : vl) (p0 : Nat) (p1 : Nat) (p2 : Int32) : Option (shp × vl) :=
  grd (kin S p1 = some (0, 8)) <| (F_js_length_m p1 S v).bind fun x2 => (if p2 < x2 then grd (kin S (nxt S) = none) <| lt3 (grow S (1, 5) 5) (nxt S) (zero v (nxt S)) fun S4 r5 v6 => K_lw_told_17 N i2 N S4 v6 p0 p1 p2 r5 (J 0) else (F_js_length_m p1 S v).bind fun x28 => grd (kin S p0 = some (0, 5)) <| (F_gc_truncateInput p0 x28 S v).bind fun (x30, w31) => some ((S, w31)))
noncomputable def K_lw_told_2 (N : Nat)  (n : Nat)  : shp → vl → Nat → Nat → Int32 → Option (shp × vl) :=
  Nat.rec (motive := fun _ => shp → vl → Nat → Nat → Int32 → Option (shp × vl)) (fun _ _ _ _ _ => none) (fun _ i => Y_lw_told_2 N  i ) n
theorem sY_lw_told_2 (N : Nat)  (i2 : shp → vl → Nat → Nat → Int32 → Option (shp × vl))   (j2 : ∀ (S : shp) (v : vl) (p0 : Nat) (p1 : Nat) (p2 : Int32), SimK B_lw_told 2 [some (.ref p0), some (.ref p1), some (.int p2), none, none] [] S v (i2 S v p0 p1 p2) (ρgv)) (S : shp) (v : vl) (p0 : Nat) (p1 : Nat) (p2 : Int32) : SimK B_lw_told 2 [some (.ref p0), some (.ref p1), some (.int p2), none, none] [] S v (Y_lw_told_2 N  i2  S v p0 p1 p2) (ρgv) := by
  unfold Y_lw_told_2
  refine sim_seg [(.iload_n 2, 0, 0, 0), (.aload_n 1, 0, 0, 0)] [] (q := 4) (L' := [some (.ref p0), some (.ref p1), some (.int p2), none, none]) (st' := [.ref p1, .int p2]) (v1 := v) (by decide +kernel) rfl trivial ?_
  refine sim_grd fun h1 => ?_
  refine sc_ri (pc3 := 7) (cf_V (idx := 1) (ci := 8) [] m_js_length_m (by decide) ⟨by decide, by decide⟩ (List.mem_of_getElem? (i := 519) (by decide +kernel)) rfl (Nat.le_of_ble_eq_true rfl) h1 (by decide +kernel) (Nat.le_of_ble_eq_true rfl) rfl) (ok_js_length_m p1 S v) rfl (fun x2 => ?_)
  refine sim_ge (o := 89) (tg := 96) (f := 10) (by decide +kernel) rfl rfl (fun _ => ?_) (fun _ => ?_)
  · refine sim_seg [(.iconst 5, 0, 0, 5)] [] (q := 11) (L' := [some (.ref p0), some (.ref p1), some (.int p2), none, none]) (st' := [.int (J 5)]) (v1 := v) (by decide +kernel) rfl trivial ?_
    refine sim_grd fun h3 => ?_
    refine sim_newa (ty := 0) (N := 5) (pc3 := 13) (by decide) (by decide +kernel) rfl (by decide) (by decide) (by decide) h3 (fun S4 r5 v6 h7 h8 => ?_)
    refine sim_seg [(.astore_n 3, 0, 0, 0)] [] (q := 14) (L' := [some (.ref p0), some (.ref p1), some (.int p2), some (.ref r5), none]) (st' := []) (v1 := v6) (by decide +kernel) rfl trivial ?_
    refine sim_seg [(.iconst 0, 0, 0, 0), (.istore 4, 0, 0, 0)] [] (q := 17) (L' := [some (.ref p0), some (.ref p1), some (.int p2), some (.ref r5), some (.int (J 0))]) (st' := []) (v1 := v6) (by decide +kernel) rfl trivial ?_
    exact sK_lw_told_17 N i2 j2 N S4 v6 p0 p1 p2 r5 (J 0)
  · refine sim_seg [(.aload_n 0, 0, 0, 0), (.aload_n 1, 0, 0, 0)] [] (q := 98) (L' := [some (.ref p0), some (.ref p1), some (.int p2), none, none]) (st' := [.ref p1, .ref p0]) (v1 := v) (by decide +kernel) rfl trivial ?_
    refine sc_ri (pc3 := 101) (cf_V (idx := 1) (ci := 8) [] m_js_length_m (by decide) ⟨by decide, by decide⟩ (List.mem_of_getElem? (i := 519) (by decide +kernel)) rfl (Nat.le_of_ble_eq_true rfl) h1 (by decide +kernel) (Nat.le_of_ble_eq_true rfl) rfl) (ok_js_length_m p1 S v) rfl (fun x28 => ?_)
    refine sim_grd fun h29 => ?_
    refine sc_pi (pc3 := 104) (cf_V (idx := 17) (ci := 5) [.int x28] m_gc_truncateInput (by decide) ⟨by decide, by decide⟩ (List.mem_of_getElem? (i := 529) (by decide +kernel)) rfl (Nat.le_of_ble_eq_true rfl) h29 (by decide +kernel) (Nat.le_of_ble_eq_true rfl) rfl) (ok_gc_truncateInput p0 x28 S v) rfl (fun x30 w31 => ?_)
    refine sim_seg [(.pop, 0, 0, 0)] [] (q := 105) (L' := [some (.ref p0), some (.ref p1), some (.int p2), none, none]) (st' := []) (v1 := w31) (by decide +kernel) rfl trivial ?_
    exact sim_vret (by decide +kernel) rfl rfl
theorem sR_lw_told_2 (N : Nat)    (n : Nat) : ∀ (S : shp) (v : vl) (p0 : Nat) (p1 : Nat) (p2 : Int32), SimK B_lw_told 2 [some (.ref p0), some (.ref p1), some (.int p2), none, none] [] S v (K_lw_told_2 N  n  S v p0 p1 p2) (ρgv) := by
  induction n with
  | zero => intro S v p0 p1 p2; exact sim_none
  | succ k ih => intro S v p0 p1 p2; exact sY_lw_told_2 N   _   ih S v p0 p1 p2
theorem sK_lw_told_2 (N : Nat)   (n : Nat) (S : shp) (v : vl) (p0 : Nat) (p1 : Nat) (p2 : Int32) : SimK B_lw_told 2 [some (.ref p0), some (.ref p1), some (.int p2), none, none] [] S v (K_lw_told_2 N  n  S v p0 p1 p2) (ρgv) := sR_lw_told_2 N    n  S v p0 p1 p2
noncomputable def F_lw_told (N : Nat) (a0 : Nat) (a1 : Nat) (S : shp) (v : vl) : Option (shp × vl) :=
  K_lw_told_2 N  N S v a0 a1 (J 0)
theorem ok_lw_told (N : Nat) (a0 : Nat) (a1 : Nat) (S : shp) (v : vl) : SimK B_lw_told 0 (entB (bN B_lw_told) [.ref a0, .ref a1]) [] S v (F_lw_told N a0 a1 S v) (ρgv) := by
  show SimK B_lw_told 0 [some (.ref a0), some (.ref a1), none, none, none] [] S v (F_lw_told N a0 a1 S v) _
  unfold F_lw_told
  refine sim_seg [(.iconst 0, 0, 0, 0), (.istore_n 2, 0, 0, 0)] [] (q := 2) (L' := [some (.ref a0), some (.ref a1), some (.int (J 0)), none, none]) (st' := []) (v1 := v) (by decide +kernel) rfl trivial ?_
  exact sK_lw_told_2 N N S v a0 a1 (J 0)
