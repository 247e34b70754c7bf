/-! Methods: gc_count, sg_isSumRight, gc_addsUp, sg_nextSegment, gc_state, gc_setting, gc_tickShare, gc_keepForUndo, gc_acceptChange, gc_digitsOf, ms_number, st_at, st_latestNumber, gc_accept, gc_fresh, gc_refuse, ck_move, ck_leap, gc_withinOff, ck_tick, ck_passEdges, ms_init, sg_firstEdge, sg_edgesUpTo, sg_passEdgesUpTo, sg_pass, sg_passAheadOfClock. -/
def B_gc_count : bd := (⟨"GateCounter", "count", "(I)I"⟩, prog_1_method_7_code, 2, (some .int), [], 5, 6)
theorem m_gc_count : mV B_gc_count 5 1 := ⟨⟨⟨by decide +kernel, Or.inl rfl⟩, rfl, (List.mem_of_getElem? (i := 771) (by decide +kernel)), by decide +kernel, (List.mem_of_getElem? (i := 57) (by decide +kernel)), ⟨by decide, by decide⟩, by decide⟩, rfl, (by unfold nar; decide +kernel), (List.mem_of_getElem? (i := 769) (by decide +kernel)), rfl, (List.mem_of_getElem? (i := 770) (by decide +kernel))⟩
noncomputable def F_gc_count (a0 : Nat) (b1 : Int32) (S : shp) (v : vl) : Option (Nat ⊕ Int32) :=
  (if b1 = J 0 then grd (kin S a0 = some (0, 5)) <| (gr S a0 5).bind fun r2 => grd (kin S r2 = some (0, 4)) <| some (.inr (gi v r2 0)) else if b1 = J 1 then grd (kin S a0 = some (0, 5)) <| (gr S a0 5).bind fun r7 => grd (kin S r7 = some (0, 4)) <| (gr S r7 6).bind fun r10 => grd (kin S r10 = some (0, 0)) <| some (.inr (gi v r10 5)) else if b1 = J 2 then grd (kin S a0 = some (0, 5)) <| (gr S a0 5).bind fun r15 => grd (kin S r15 = some (0, 4)) <| (gr S r15 7).bind fun r18 => grd (kin S r18 = some (0, 3)) <| some (.inr (gi v r18 2)) else if b1 = J 3 then grd (kin S a0 = some (0, 5)) <| (gr S a0 5).bind fun r23 => grd (kin S r23 = some (0, 4)) <| (gr S r23 7).bind fun r26 => grd (kin S r26 = some (0, 3)) <| some (.inr (gi v r26 3)) else if b1 = J 4 then grd (kin S a0 = some (0, 5)) <| (gr S a0 5).bind fun r31 => grd (kin S r31 = some (0, 4)) <| (gr S r31 7).bind fun r34 => grd (kin S r34 = some (0, 3)) <| some (.inr (gi v r34 8)) else if b1 = J 5 then grd (kin S a0 = some (0, 5)) <| (gr S a0 5).bind fun r39 => grd (kin S r39 = some (0, 4)) <| (gr S r39 7).bind fun r42 => grd (kin S r42 = some (0, 3)) <| some (.inr (gi v r42 9)) else if b1 = J 6 then grd (kin S a0 = some (0, 5)) <| (gr S a0 5).bind fun r47 => grd (kin S r47 = some (0, 4)) <| some (.inr (gi v r47 4)) else if b1 = J 7 then grd (kin S a0 = some (0, 5)) <| (gr S a0 5).bind fun r52 => grd (kin S r52 = some (0, 4)) <| some (.inr (gi v r52 5)) else if b1 = J 8 then grd (kin S a0 = some (0, 5)) <| some (.inr (gi v a0 12)) else some (.inl 0))
theorem ok_gc_count (a0 : Nat) (b1 : Int32) (S : shp) (v : vl) : SimK B_gc_count 0 (entB (bN B_gc_count) [.ref a0, .int b1]) [] S v (F_gc_count a0 b1 S v) (ρxi S v) := by
  show SimK B_gc_count 0 [some (.ref a0), some (.int b1)] [] S v (F_gc_count a0 b1 S v) _
  unfold F_gc_count
  refine sim_seg [(.iload_n 1, 0, 0, 0)] [] (q := 1) (L' := [some (.ref a0), some (.int b1)]) (st' := [.int b1]) (v1 := v) (by decide +kernel) rfl trivial ?_
  refine sim_case (df := 135) (lw := 0) (hg := 8) (offs := #[51, 59, 70, 81, 92, 103, 114, 122, 130]) (len := 51) (z := 0) (o := 51) (tg := 52) (by decide +kernel) rfl rfl (by decide) (fun _ => ?_) (fun h5 => ?_)
  · refine sim_grd fun h1 => ?_
    refine sim_bind fun r2 h3 => ?_
    refine sim_grd fun h4 => ?_
    refine sim_seg [(.aload_n 0, 0, 0, 0), (.getfield 26, 5, 5, 0), (.getfield 84, 4, 0, 0)] [r2] (q := 59) (L' := [some (.ref a0), some (.int b1)]) (st' := [.int (gi v r2 0)]) (v1 := v) (by decide +kernel) rfl ⟨⟨h1, h3⟩, h4, trivial⟩ ?_
    exact sim_iret (by decide +kernel) rfl rfl rfl
  refine sim_case (df := 135) (lw := 0) (hg := 8) (offs := #[51, 59, 70, 81, 92, 103, 114, 122, 130]) (len := 51) (z := 1) (o := 59) (tg := 60) (by decide +kernel) rfl rfl (by decide) (fun _ => ?_) (fun h13 => ?_)
  · refine sim_grd fun h6 => ?_
    refine sim_bind fun r7 h8 => ?_
    refine sim_grd fun h9 => ?_
    refine sim_bind fun r10 h11 => ?_
    refine sim_grd fun h12 => ?_
    refine sim_seg [(.aload_n 0, 0, 0, 0), (.getfield 26, 5, 5, 0), (.getfield 87, 4, 6, 0), (.getfield 91, 0, 5, 0)] [r7, r10] (q := 70) (L' := [some (.ref a0), some (.int b1)]) (st' := [.int (gi v r10 5)]) (v1 := v) (by decide +kernel) rfl ⟨⟨h6, h8⟩, ⟨h9, h11⟩, h12, trivial⟩ ?_
    exact sim_iret (by decide +kernel) rfl rfl rfl
  refine sim_case (df := 135) (lw := 0) (hg := 8) (offs := #[51, 59, 70, 81, 92, 103, 114, 122, 130]) (len := 51) (z := 2) (o := 70) (tg := 71) (by decide +kernel) rfl rfl (by decide) (fun _ => ?_) (fun h21 => ?_)
  · refine sim_grd fun h14 => ?_
    refine sim_bind fun r15 h16 => ?_
    refine sim_grd fun h17 => ?_
    refine sim_bind fun r18 h19 => ?_
    refine sim_grd fun h20 => ?_
    refine sim_seg [(.aload_n 0, 0, 0, 0), (.getfield 26, 5, 5, 0), (.getfield 69, 4, 7, 0), (.getfield 96, 3, 2, 0)] [r15, r18] (q := 81) (L' := [some (.ref a0), some (.int b1)]) (st' := [.int (gi v r18 2)]) (v1 := v) (by decide +kernel) rfl ⟨⟨h14, h16⟩, ⟨h17, h19⟩, h20, trivial⟩ ?_
    exact sim_iret (by decide +kernel) rfl rfl rfl
  refine sim_case (df := 135) (lw := 0) (hg := 8) (offs := #[51, 59, 70, 81, 92, 103, 114, 122, 130]) (len := 51) (z := 3) (o := 81) (tg := 82) (by decide +kernel) rfl rfl (by decide) (fun _ => ?_) (fun h29 => ?_)
  · refine sim_grd fun h22 => ?_
    refine sim_bind fun r23 h24 => ?_
    refine sim_grd fun h25 => ?_
    refine sim_bind fun r26 h27 => ?_
    refine sim_grd fun h28 => ?_
    refine sim_seg [(.aload_n 0, 0, 0, 0), (.getfield 26, 5, 5, 0), (.getfield 69, 4, 7, 0), (.getfield 97, 3, 3, 0)] [r23, r26] (q := 92) (L' := [some (.ref a0), some (.int b1)]) (st' := [.int (gi v r26 3)]) (v1 := v) (by decide +kernel) rfl ⟨⟨h22, h24⟩, ⟨h25, h27⟩, h28, trivial⟩ ?_
    exact sim_iret (by decide +kernel) rfl rfl rfl
  refine sim_case (df := 135) (lw := 0) (hg := 8) (offs := #[51, 59, 70, 81, 92, 103, 114, 122, 130]) (len := 51) (z := 4) (o := 92) (tg := 93) (by decide +kernel) rfl rfl (by decide) (fun _ => ?_) (fun h37 => ?_)
  · refine sim_grd fun h30 => ?_
    refine sim_bind fun r31 h32 => ?_
    refine sim_grd fun h33 => ?_
    refine sim_bind fun r34 h35 => ?_
    refine sim_grd fun h36 => ?_
    refine sim_seg [(.aload_n 0, 0, 0, 0), (.getfield 26, 5, 5, 0), (.getfield 69, 4, 7, 0), (.getfield 73, 3, 8, 0)] [r31, r34] (q := 103) (L' := [some (.ref a0), some (.int b1)]) (st' := [.int (gi v r34 8)]) (v1 := v) (by decide +kernel) rfl ⟨⟨h30, h32⟩, ⟨h33, h35⟩, h36, trivial⟩ ?_
    exact sim_iret (by decide +kernel) rfl rfl rfl
  refine sim_case (df := 135) (lw := 0) (hg := 8) (offs := #[51, 59, 70, 81, 92, 103, 114, 122, 130]) (len := 51) (z := 5) (o := 103) (tg := 104) (by decide +kernel) rfl rfl (by decide) (fun _ => ?_) (fun h45 => ?_)
  · refine sim_grd fun h38 => ?_
    refine sim_bind fun r39 h40 => ?_
    refine sim_grd fun h41 => ?_
    refine sim_bind fun r42 h43 => ?_
    refine sim_grd fun h44 => ?_
    refine sim_seg [(.aload_n 0, 0, 0, 0), (.getfield 26, 5, 5, 0), (.getfield 69, 4, 7, 0), (.getfield 100, 3, 9, 0)] [r39, r42] (q := 114) (L' := [some (.ref a0), some (.int b1)]) (st' := [.int (gi v r42 9)]) (v1 := v) (by decide +kernel) rfl ⟨⟨h38, h40⟩, ⟨h41, h43⟩, h44, trivial⟩ ?_
    exact sim_iret (by decide +kernel) rfl rfl rfl
  refine sim_case (df := 135) (lw := 0) (hg := 8) (offs := #[51, 59, 70, 81, 92, 103, 114, 122, 130]) (len := 51) (z := 6) (o := 114) (tg := 115) (by decide +kernel) rfl rfl (by decide) (fun _ => ?_) (fun h50 => ?_)
  · refine sim_grd fun h46 => ?_
    refine sim_bind fun r47 h48 => ?_
    refine sim_grd fun h49 => ?_
    refine sim_seg [(.aload_n 0, 0, 0, 0), (.getfield 26, 5, 5, 0), (.getfield 103, 4, 4, 0)] [r47] (q := 122) (L' := [some (.ref a0), some (.int b1)]) (st' := [.int (gi v r47 4)]) (v1 := v) (by decide +kernel) rfl ⟨⟨h46, h48⟩, h49, trivial⟩ ?_
    exact sim_iret (by decide +kernel) rfl rfl rfl
  refine sim_case (df := 135) (lw := 0) (hg := 8) (offs := #[51, 59, 70, 81, 92, 103, 114, 122, 130]) (len := 51) (z := 7) (o := 122) (tg := 123) (by decide +kernel) rfl rfl (by decide) (fun _ => ?_) (fun h55 => ?_)
  · refine sim_grd fun h51 => ?_
    refine sim_bind fun r52 h53 => ?_
    refine sim_grd fun h54 => ?_
    refine sim_seg [(.aload_n 0, 0, 0, 0), (.getfield 26, 5, 5, 0), (.getfield 106, 4, 5, 0)] [r52] (q := 130) (L' := [some (.ref a0), some (.int b1)]) (st' := [.int (gi v r52 5)]) (v1 := v) (by decide +kernel) rfl ⟨⟨h51, h53⟩, h54, trivial⟩ ?_
    exact sim_iret (by decide +kernel) rfl rfl rfl
  refine sim_case (df := 135) (lw := 0) (hg := 8) (offs := #[51, 59, 70, 81, 92, 103, 114, 122, 130]) (len := 51) (z := 8) (o := 130) (tg := 131) (by decide +kernel) rfl rfl (by decide) (fun _ => ?_) (fun h57 => ?_)
  · refine sim_grd fun h56 => ?_
    refine sim_seg [(.aload_n 0, 0, 0, 0), (.getfield 62, 5, 12, 0)] [] (q := 135) (L' := [some (.ref a0), some (.int b1)]) (st' := [.int (gi v a0 12)]) (v1 := v) (by decide +kernel) rfl ⟨h56, trivial⟩ ?_
    exact sim_iret (by decide +kernel) rfl rfl rfl
  refine sim_tdef (df := 135) (lw := 0) (hg := 8) (offs := #[51, 59, 70, 81, 92, 103, 114, 122, 130]) (len := 51) (tg := 136) (by decide +kernel) rfl (by have eh5 := ne_J h5 (by decide) (by decide); have eh13 := ne_J h13 (by decide) (by decide); have eh21 := ne_J h21 (by decide) (by decide); have eh29 := ne_J h29 (by decide) (by decide); have eh37 := ne_J h37 (by decide) (by decide); have eh45 := ne_J h45 (by decide) (by decide); have eh50 := ne_J h50 (by decide) (by decide); have eh55 := ne_J h55 (by decide) (by decide); have eh57 := ne_J h57 (by decide) (by decide); omega) ?_
  exact sim_throw thr0 rfl rfl (by decide) (by decide +kernel) (by decide +kernel) (by decide +kernel) (by decide +kernel) (Nat.le_of_ble_eq_true rfl) rfl
def B_sg_isSumRight : bd := (⟨"GateCounter$Signal", "isSumRight", "()Z"⟩, prog_5_method_5_code, 1, (some .boolean), [], 3, 0)
theorem m_sg_isSumRight : mV B_sg_isSumRight 3 0 := ⟨⟨⟨by decide +kernel, Or.inl rfl⟩, rfl, (List.mem_of_getElem? (i := 842) (by decide +kernel)), by decide +kernel, (List.mem_of_getElem? (i := 61) (by decide +kernel)), ⟨by decide, by decide⟩, by decide⟩, rfl, (by unfold nar; decide +kernel), (List.mem_of_getElem? (i := 840) (by decide +kernel)), rfl, (List.mem_of_getElem? (i := 841) (by decide +kernel))⟩
noncomputable def F_sg_isSumRight (a0 : Nat) (S : shp) (v : vl) : Option Int32 :=
  grd (kin S a0 = some (0, 3)) <| (if ((gi v a0 2) - (gi v a0 6)) = (((gi v a0 4) * ((gi v a0 3) - (gi v a0 7))) + (gi v a0 5)) then some ((J 1)) else some ((J 0)))
theorem ok_sg_isSumRight (a0 : Nat) (S : shp) (v : vl) : SimK B_sg_isSumRight 0 (entB (bN B_sg_isSumRight) [.ref a0]) [] S v (F_sg_isSumRight a0 S v) (ρri S v) := by
  show SimK B_sg_isSumRight 0 [some (.ref a0)] [] S v (F_sg_isSumRight a0 S v) _
  unfold F_sg_isSumRight
  refine sim_grd fun h1 => ?_
  refine sim_seg [(.aload_n 0, 0, 0, 0), (.getfield 25, 3, 2, 0), (.aload_n 0, 0, 0, 0), (.getfield 47, 3, 6, 0), (.isub, 0, 0, 0), (.aload_n 0, 0, 0, 0), (.getfield 41, 3, 4, 0), (.aload_n 0, 0, 0, 0), (.getfield 28, 3, 3, 0), (.aload_n 0, 0, 0, 0), (.getfield 50, 3, 7, 0), (.isub, 0, 0, 0)] [] (q := 22) (L' := [some (.ref a0)]) (st' := [.int ((gi v a0 3) - (gi v a0 7)), .int (gi v a0 4), .int ((gi v a0 2) - (gi v a0 6))]) (v1 := v) (by decide +kernel) rfl ⟨h1, h1, h1, h1, h1, trivial⟩ ?_
  refine sim_seg [(.imul, 0, 0, 0), (.aload_n 0, 0, 0, 0), (.getfield 44, 3, 5, 0), (.iadd, 0, 0, 0)] [] (q := 28) (L' := [some (.ref a0)]) (st' := [.int (((gi v a0 4) * ((gi v a0 3) - (gi v a0 7))) + (gi v a0 5)), .int ((gi v a0 2) - (gi v a0 6))]) (v1 := v) (by decide +kernel) rfl ⟨h1, trivial⟩ ?_
  refine sim_ne (o := 7) (tg := 35) (f := 31) (by decide +kernel) rfl rfl (fun _ => ?_) (fun _ => ?_)
  · refine sim_seg [(.iconst 1, 0, 0, 1), (.goto 4, 0, 0, 0)] [] (q := 36) (L' := [some (.ref a0)]) (st' := [.int (J 1)]) (v1 := v) (by decide +kernel) rfl trivial ?_
    exact sim_iret (by decide +kernel) rfl (by decide) rfl
  · refine sim_seg [(.iconst 0, 0, 0, 0)] [] (q := 36) (L' := [some (.ref a0)]) (st' := [.int (J 0)]) (v1 := v) (by decide +kernel) rfl trivial ?_
    exact sim_iret (by decide +kernel) rfl (by decide) rfl
def B_gc_addsUp : bd := (⟨"GateCounter", "addsUp", "()Z"⟩, prog_1_method_15_code, 1, (some .boolean), [], 5, 1)
theorem m_gc_addsUp : mV B_gc_addsUp 5 0 := ⟨⟨⟨by decide +kernel, Or.inl rfl⟩, rfl, (List.mem_of_getElem? (i := 838) (by decide +kernel)), by decide +kernel, (List.mem_of_getElem? (i := 57) (by decide +kernel)), ⟨by decide, by decide⟩, by decide⟩, rfl, (by unfold nar; decide +kernel), (List.mem_of_getElem? (i := 836) (by decide +kernel)), rfl, (List.mem_of_getElem? (i := 837) (by decide +kernel))⟩
noncomputable def F_gc_addsUp (a0 : Nat) (S : shp) (v : vl) : Option Int32 :=
  grd (kin S a0 = some (0, 5)) <| (gr S a0 5).bind fun r2 => grd (kin S r2 = some (0, 4)) <| (gr S r2 7).bind fun r5 => grd (kin S r5 = some (0, 3)) <| (F_sg_isSumRight r5 S v).bind fun x8 => grd (narrow .boolean (.int x8) = .int x8) <| some (x8)
theorem ok_gc_addsUp (a0 : Nat) (S : shp) (v : vl) : SimK B_gc_addsUp 0 (entB (bN B_gc_addsUp) [.ref a0]) [] S v (F_gc_addsUp a0 S v) (ρri S v) := by
  show SimK B_gc_addsUp 0 [some (.ref a0)] [] S v (F_gc_addsUp a0 S v) _
  unfold F_gc_addsUp
  refine sim_grd fun h1 => ?_
  refine sim_bind fun r2 h3 => ?_
  refine sim_grd fun h4 => ?_
  refine sim_bind fun r5 h6 => ?_
  refine sim_seg [(.aload_n 0, 0, 0, 0), (.getfield 26, 5, 5, 0), (.getfield 69, 4, 7, 0)] [r2, r5] (q := 7) (L' := [some (.ref a0)]) (st' := [.ref r5]) (v1 := v) (by decide +kernel) rfl ⟨⟨h1, h3⟩, ⟨h4, h6⟩, trivial⟩ ?_
  refine sim_grd fun h7 => ?_
  refine sc_ri (pc3 := 10) (cf_V (idx := 189) (ci := 3) [] m_sg_isSumRight (by decide) ⟨by decide, by decide⟩ (List.mem_of_getElem? (i := 839) (by decide +kernel)) rfl (Nat.le_of_ble_eq_true rfl) h7 (by decide +kernel) (Nat.le_of_ble_eq_true rfl) rfl) (ok_sg_isSumRight r5 S v) rfl (fun x8 => ?_)
  refine sim_grd fun h9 => ?_
  exact sim_iret (by decide +kernel) rfl h9 rfl
def B_sg_nextSegment : bd := (⟨"GateCounter$Signal", "nextSegment", "()I"⟩, prog_5_method_6_code, 1, (some .int), [], 3, 0)
theorem m_sg_nextSegment : mV B_sg_nextSegment 3 0 := ⟨⟨⟨by decide +kernel, Or.inl rfl⟩, rfl, (List.mem_of_getElem? (i := 850) (by decide +kernel)), by decide +kernel, (List.mem_of_getElem? (i := 61) (by decide +kernel)), ⟨by decide, by decide⟩, by decide⟩, rfl, (by unfold nar; decide +kernel), (List.mem_of_getElem? (i := 848) (by decide +kernel)), rfl, (List.mem_of_getElem? (i := 849) (by decide +kernel))⟩
noncomputable def F_sg_nextSegment (a0 : Nat) (S : shp) (v : vl) : Option Int32 :=
  grd (kin S a0 = some (0, 3)) <| (if (gi v a0 9) < (J 0) then some ((J (-1))) else (if (gi v a0 9) < (gi v a0 8) then (gr S a0 10).bind fun r2 => grd (kin S r2 = some (1, 8)) <| grd (vp_in (gi v a0 9) (alen S r2)) <| some ((gi v r2 (Int32.toNatClampNeg (gi v a0 9)))) else some ((J (-1)))))
theorem ok_sg_nextSegment (a0 : Nat) (S : shp) (v : vl) : SimK B_sg_nextSegment 0 (entB (bN B_sg_nextSegment) [.ref a0]) [] S v (F_sg_nextSegment a0 S v) (ρri S v) := by
  show SimK B_sg_nextSegment 0 [some (.ref a0)] [] S v (F_sg_nextSegment a0 S v) _
  unfold F_sg_nextSegment
  refine sim_grd fun h1 => ?_
  refine sim_seg [(.aload_n 0, 0, 0, 0), (.getfield 38, 3, 9, 0)] [] (q := 4) (L' := [some (.ref a0)]) (st' := [.int (gi v a0 9)]) (v1 := v) (by decide +kernel) rfl ⟨h1, trivial⟩ ?_
  refine sim_lt0 (o := 26) (tg := 30) (f := 7) (by decide +kernel) rfl rfl (fun _ => ?_) (fun _ => ?_)
  · refine sim_seg [(.iconst (-1), 0, 0, (-1))] [] (q := 31) (L' := [some (.ref a0)]) (st' := [.int (J (-1))]) (v1 := v) (by decide +kernel) rfl trivial ?_
    exact sim_iret (by decide +kernel) rfl rfl rfl
  · refine sim_seg [(.aload_n 0, 0, 0, 0), (.getfield 38, 3, 9, 0), (.aload_n 0, 0, 0, 0), (.getfield 35, 3, 8, 0)] [] (q := 15) (L' := [some (.ref a0)]) (st' := [.int (gi v a0 8), .int (gi v a0 9)]) (v1 := v) (by decide +kernel) rfl ⟨h1, h1, trivial⟩ ?_
    refine sim_ge (o := 15) (tg := 30) (f := 18) (by decide +kernel) rfl rfl (fun _ => ?_) (fun _ => ?_)
    · refine sim_bind fun r2 h3 => ?_
      refine sim_grd fun h4 => ?_
      refine sim_grd fun h5 => ?_
      refine sim_seg [(.aload_n 0, 0, 0, 0), (.getfield 9, 3, 10, 0), (.aload_n 0, 0, 0, 0), (.getfield 38, 3, 9, 0), (.iaload, 0, 0, 0), (.goto 4, 0, 0, 0)] [r2] (q := 31) (L' := [some (.ref a0)]) (st' := [.int (gi v r2 (Int32.toNatClampNeg (gi v a0 9)))]) (v1 := v) (by decide +kernel) rfl ⟨⟨h1, h3⟩, h1, ⟨(Or.inl (kin_alen h4)), h5⟩, trivial⟩ ?_
      exact sim_iret (by decide +kernel) rfl rfl rfl
    · refine sim_seg [(.iconst (-1), 0, 0, (-1))] [] (q := 31) (L' := [some (.ref a0)]) (st' := [.int (J (-1))]) (v1 := v) (by decide +kernel) rfl trivial ?_
      exact sim_iret (by decide +kernel) rfl rfl rfl
def B_gc_state : bd := (⟨"GateCounter", "state", "(I)I"⟩, prog_1_method_9_code, 2, (some .int), [], 5, 6)
theorem m_gc_state : mV B_gc_state 5 1 := ⟨⟨⟨by decide +kernel, Or.inl rfl⟩, rfl, (List.mem_of_getElem? (i := 846) (by decide +kernel)), by decide +kernel, (List.mem_of_getElem? (i := 57) (by decide +kernel)), ⟨by decide, by decide⟩, by decide⟩, rfl, (by unfold nar; decide +kernel), (List.mem_of_getElem? (i := 844) (by decide +kernel)), rfl, (List.mem_of_getElem? (i := 845) (by decide +kernel))⟩
noncomputable def F_gc_state (a0 : Nat) (b1 : Int32) (S : shp) (v : vl) : Option (Nat ⊕ Int32) :=
  (if b1 = J 0 then grd (kin S a0 = some (0, 5)) <| (gr S a0 5).bind fun r2 => grd (kin S r2 = some (0, 4)) <| (gr S r2 6).bind fun r5 => grd (kin S r5 = some (0, 0)) <| some (.inr (gi v r5 4)) else if b1 = J 1 then grd (kin S a0 = some (0, 5)) <| (gr S a0 5).bind fun r10 => grd (kin S r10 = some (0, 4)) <| (gr S r10 6).bind fun r13 => grd (kin S r13 = some (0, 0)) <| some (.inr (gi v r13 3)) else if b1 = J 2 then grd (kin S a0 = some (0, 5)) <| (gr S a0 5).bind fun r18 => grd (kin S r18 = some (0, 4)) <| (gr S r18 7).bind fun r21 => grd (kin S r21 = some (0, 3)) <| some (.inr (gi v r21 0)) else if b1 = J 3 then grd (kin S a0 = some (0, 5)) <| (gr S a0 5).bind fun r26 => grd (kin S r26 = some (0, 4)) <| (gr S r26 7).bind fun r29 => grd (kin S r29 = some (0, 3)) <| some (.inr (gi v r29 1)) else if b1 = J 4 then grd (kin S a0 = some (0, 5)) <| (gr S a0 5).bind fun r34 => grd (kin S r34 = some (0, 4)) <| (gr S r34 7).bind fun r37 => grd (kin S r37 = some (0, 3)) <| some (.inr (gi v r37 5)) else if b1 = J 5 then grd (kin S a0 = some (0, 5)) <| (gr S a0 5).bind fun r42 => grd (kin S r42 = some (0, 4)) <| (gr S r42 7).bind fun r45 => grd (kin S r45 = some (0, 3)) <| (F_sg_nextSegment r45 S v).bind fun x48 => some (.inr x48) else some (.inl 0))
theorem ok_gc_state (a0 : Nat) (b1 : Int32) (S : shp) (v : vl) : SimK B_gc_state 0 (entB (bN B_gc_state) [.ref a0, .int b1]) [] S v (F_gc_state a0 b1 S v) (ρxi S v) := by
  show SimK B_gc_state 0 [some (.ref a0), some (.int b1)] [] S v (F_gc_state a0 b1 S v) _
  unfold F_gc_state
  refine sim_seg [(.iload_n 1, 0, 0, 0)] [] (q := 1) (L' := [some (.ref a0), some (.int b1)]) (st' := [.int b1]) (v1 := v) (by decide +kernel) rfl trivial ?_
  refine sim_case (df := 105) (lw := 0) (hg := 5) (offs := #[39, 50, 61, 72, 83, 94]) (len := 39) (z := 0) (o := 39) (tg := 40) (by decide +kernel) rfl rfl (by decide) (fun _ => ?_) (fun h8 => ?_)
  · refine sim_grd fun h1 => ?_
    refine sim_bind fun r2 h3 => ?_
    refine sim_grd fun h4 => ?_
    refine sim_bind fun r5 h6 => ?_
    refine sim_grd fun h7 => ?_
    refine sim_seg [(.aload_n 0, 0, 0, 0), (.getfield 26, 5, 5, 0), (.getfield 87, 4, 6, 0), (.getfield 133, 0, 4, 0)] [r2, r5] (q := 50) (L' := [some (.ref a0), some (.int b1)]) (st' := [.int (gi v r5 4)]) (v1 := v) (by decide +kernel) rfl ⟨⟨h1, h3⟩, ⟨h4, h6⟩, h7, trivial⟩ ?_
    exact sim_iret (by decide +kernel) rfl rfl rfl
  refine sim_case (df := 105) (lw := 0) (hg := 5) (offs := #[39, 50, 61, 72, 83, 94]) (len := 39) (z := 1) (o := 50) (tg := 51) (by decide +kernel) rfl rfl (by decide) (fun _ => ?_) (fun h16 => ?_)
  · refine sim_grd fun h9 => ?_
    refine sim_bind fun r10 h11 => ?_
    refine sim_grd fun h12 => ?_
    refine sim_bind fun r13 h14 => ?_
    refine sim_grd fun h15 => ?_
    refine sim_seg [(.aload_n 0, 0, 0, 0), (.getfield 26, 5, 5, 0), (.getfield 87, 4, 6, 0), (.getfield 136, 0, 3, 0)] [r10, r13] (q := 61) (L' := [some (.ref a0), some (.int b1)]) (st' := [.int (gi v r13 3)]) (v1 := v) (by decide +kernel) rfl ⟨⟨h9, h11⟩, ⟨h12, h14⟩, h15, trivial⟩ ?_
    exact sim_iret (by decide +kernel) rfl rfl rfl
  refine sim_case (df := 105) (lw := 0) (hg := 5) (offs := #[39, 50, 61, 72, 83, 94]) (len := 39) (z := 2) (o := 61) (tg := 62) (by decide +kernel) rfl rfl (by decide) (fun _ => ?_) (fun h24 => ?_)
  · refine sim_grd fun h17 => ?_
    refine sim_bind fun r18 h19 => ?_
    refine sim_grd fun h20 => ?_
    refine sim_bind fun r21 h22 => ?_
    refine sim_grd fun h23 => ?_
    refine sim_seg [(.aload_n 0, 0, 0, 0), (.getfield 26, 5, 5, 0), (.getfield 69, 4, 7, 0), (.getfield 139, 3, 0, 0)] [r18, r21] (q := 72) (L' := [some (.ref a0), some (.int b1)]) (st' := [.int (gi v r21 0)]) (v1 := v) (by decide +kernel) rfl ⟨⟨h17, h19⟩, ⟨h20, h22⟩, h23, trivial⟩ ?_
    exact sim_iret (by decide +kernel) rfl rfl rfl
  refine sim_case (df := 105) (lw := 0) (hg := 5) (offs := #[39, 50, 61, 72, 83, 94]) (len := 39) (z := 3) (o := 72) (tg := 73) (by decide +kernel) rfl rfl (by decide) (fun _ => ?_) (fun h32 => ?_)
  · refine sim_grd fun h25 => ?_
    refine sim_bind fun r26 h27 => ?_
    refine sim_grd fun h28 => ?_
    refine sim_bind fun r29 h30 => ?_
    refine sim_grd fun h31 => ?_
    refine sim_seg [(.aload_n 0, 0, 0, 0), (.getfield 26, 5, 5, 0), (.getfield 69, 4, 7, 0), (.getfield 142, 3, 1, 0)] [r26, r29] (q := 83) (L' := [some (.ref a0), some (.int b1)]) (st' := [.int (gi v r29 1)]) (v1 := v) (by decide +kernel) rfl ⟨⟨h25, h27⟩, ⟨h28, h30⟩, h31, trivial⟩ ?_
    exact sim_iret (by decide +kernel) rfl rfl rfl
  refine sim_case (df := 105) (lw := 0) (hg := 5) (offs := #[39, 50, 61, 72, 83, 94]) (len := 39) (z := 4) (o := 83) (tg := 84) (by decide +kernel) rfl rfl (by decide) (fun _ => ?_) (fun h40 => ?_)
  · refine sim_grd fun h33 => ?_
    refine sim_bind fun r34 h35 => ?_
    refine sim_grd fun h36 => ?_
    refine sim_bind fun r37 h38 => ?_
    refine sim_grd fun h39 => ?_
    refine sim_seg [(.aload_n 0, 0, 0, 0), (.getfield 26, 5, 5, 0), (.getfield 69, 4, 7, 0), (.getfield 145, 3, 5, 0)] [r34, r37] (q := 94) (L' := [some (.ref a0), some (.int b1)]) (st' := [.int (gi v r37 5)]) (v1 := v) (by decide +kernel) rfl ⟨⟨h33, h35⟩, ⟨h36, h38⟩, h39, trivial⟩ ?_
    exact sim_iret (by decide +kernel) rfl rfl rfl
  refine sim_case (df := 105) (lw := 0) (hg := 5) (offs := #[39, 50, 61, 72, 83, 94]) (len := 39) (z := 5) (o := 94) (tg := 95) (by decide +kernel) rfl rfl (by decide) (fun _ => ?_) (fun h49 => ?_)
  · refine sim_grd fun h41 => ?_
    refine sim_bind fun r42 h43 => ?_
    refine sim_grd fun h44 => ?_
    refine sim_bind fun r45 h46 => ?_
    refine sim_seg [(.aload_n 0, 0, 0, 0), (.getfield 26, 5, 5, 0), (.getfield 69, 4, 7, 0)] [r42, r45] (q := 102) (L' := [some (.ref a0), some (.int b1)]) (st' := [.ref r45]) (v1 := v) (by decide +kernel) rfl ⟨⟨h41, h43⟩, ⟨h44, h46⟩, trivial⟩ ?_
    refine sim_grd fun h47 => ?_
    refine sc_ri (pc3 := 105) (cf_V (idx := 148) (ci := 3) [] m_sg_nextSegment (by decide) ⟨by decide, by decide⟩ (List.mem_of_getElem? (i := 847) (by decide +kernel)) rfl (Nat.le_of_ble_eq_true rfl) h47 (by decide +kernel) (Nat.le_of_ble_eq_true rfl) rfl) (ok_sg_nextSegment r45 S v) rfl (fun x48 => ?_)
    exact sim_iret (by decide +kernel) rfl rfl rfl
  refine sim_tdef (df := 105) (lw := 0) (hg := 5) (offs := #[39, 50, 61, 72, 83, 94]) (len := 39) (tg := 106) (by decide +kernel) rfl (by have eh8 := ne_J h8 (by decide) (by decide); have eh16 := ne_J h16 (by decide) (by decide); have eh24 := ne_J h24 (by decide) (by decide); have eh32 := ne_J h32 (by decide) (by decide); have eh40 := ne_J h40 (by decide) (by decide); have eh49 := ne_J h49 (by decide) (by decide); omega) ?_
  exact sim_throw thr0 rfl rfl (by decide) (by decide +kernel) (by decide +kernel) (by decide +kernel) (by decide +kernel) (Nat.le_of_ble_eq_true rfl) rfl
def B_gc_setting : bd := (⟨"GateCounter", "setting", "(I)I"⟩, prog_1_method_8_code, 2, (some .int), [], 5, 6)
theorem m_gc_setting : mV B_gc_setting 5 1 := ⟨⟨⟨by decide +kernel, Or.inl rfl⟩, rfl, (List.mem_of_getElem? (i := 867) (by decide +kernel)), by decide +kernel, (List.mem_of_getElem? (i := 57) (by decide +kernel)), ⟨by decide, by decide⟩, by decide⟩, rfl, (by unfold nar; decide +kernel), (List.mem_of_getElem? (i := 865) (by decide +kernel)), rfl, (List.mem_of_getElem? (i := 866) (by decide +kernel))⟩
noncomputable def F_gc_setting (a0 : Nat) (b1 : Int32) (S : shp) (v : vl) : Option (Nat ⊕ Int32) :=
  (if b1 = J 0 then grd (kin S a0 = some (0, 5)) <| (gr S a0 5).bind fun r2 => grd (kin S r2 = some (0, 4)) <| (gr S r2 6).bind fun r5 => grd (kin S r5 = some (0, 0)) <| some (.inr (gi v r5 0)) else if b1 = J 1 then grd (kin S a0 = some (0, 5)) <| (gr S a0 5).bind fun r10 => grd (kin S r10 = some (0, 4)) <| (gr S r10 6).bind fun r13 => grd (kin S r13 = some (0, 0)) <| some (.inr (gi v r13 1)) else if b1 = J 2 then grd (kin S a0 = some (0, 5)) <| (gr S a0 5).bind fun r18 => grd (kin S r18 = some (0, 4)) <| (gr S r18 6).bind fun r21 => grd (kin S r21 = some (0, 0)) <| some (.inr (gi v r21 2)) else if b1 = J 3 then grd (kin S a0 = some (0, 5)) <| (gr S a0 5).bind fun r26 => grd (kin S r26 = some (0, 4)) <| (gr S r26 7).bind fun r29 => grd (kin S r29 = some (0, 3)) <| some (.inr (gi v r29 4)) else if b1 = J 4 then grd (kin S a0 = some (0, 5)) <| (gr S a0 5).bind fun r34 => grd (kin S r34 = some (0, 4)) <| some (.inr (gi v r34 1)) else if b1 = J 5 then grd (kin S a0 = some (0, 5)) <| (gr S a0 5).bind fun r39 => grd (kin S r39 = some (0, 4)) <| some (.inr (gi v r39 2)) else if b1 = J 6 then grd (kin S a0 = some (0, 5)) <| (gr S a0 5).bind fun r44 => grd (kin S r44 = some (0, 4)) <| some (.inr (gi v r44 3)) else some (.inl 0))
theorem ok_gc_setting (a0 : Nat) (b1 : Int32) (S : shp) (v : vl) : SimK B_gc_setting 0 (entB (bN B_gc_setting) [.ref a0, .int b1]) [] S v (F_gc_setting a0 b1 S v) (ρxi S v) := by
  show SimK B_gc_setting 0 [some (.ref a0), some (.int b1)] [] S v (F_gc_setting a0 b1 S v) _
  unfold F_gc_setting
  refine sim_seg [(.iload_n 1, 0, 0, 0)] [] (q := 1) (L' := [some (.ref a0), some (.int b1)]) (st' := [.int b1]) (v1 := v) (by decide +kernel) rfl trivial ?_
  refine sim_case (df := 111) (lw := 0) (hg := 6) (offs := #[43, 54, 65, 76, 87, 95, 103]) (len := 43) (z := 0) (o := 43) (tg := 44) (by decide +kernel) rfl rfl (by decide) (fun _ => ?_) (fun h8 => ?_)
  · refine sim_grd fun h1 => ?_
    refine sim_bind fun r2 h3 => ?_
    refine sim_grd fun h4 => ?_
    refine sim_bind fun r5 h6 => ?_
    refine sim_grd fun h7 => ?_
    refine sim_seg [(.aload_n 0, 0, 0, 0), (.getfield 26, 5, 5, 0), (.getfield 87, 4, 6, 0), (.getfield 112, 0, 0, 0)] [r2, r5] (q := 54) (L' := [some (.ref a0), some (.int b1)]) (st' := [.int (gi v r5 0)]) (v1 := v) (by decide +kernel) rfl ⟨⟨h1, h3⟩, ⟨h4, h6⟩, h7, trivial⟩ ?_
    exact sim_iret (by decide +kernel) rfl rfl rfl
  refine sim_case (df := 111) (lw := 0) (hg := 6) (offs := #[43, 54, 65, 76, 87, 95, 103]) (len := 43) (z := 1) (o := 54) (tg := 55) (by decide +kernel) rfl rfl (by decide) (fun _ => ?_) (fun h16 => ?_)
  · refine sim_grd fun h9 => ?_
    refine sim_bind fun r10 h11 => ?_
    refine sim_grd fun h12 => ?_
    refine sim_bind fun r13 h14 => ?_
    refine sim_grd fun h15 => ?_
    refine sim_seg [(.aload_n 0, 0, 0, 0), (.getfield 26, 5, 5, 0), (.getfield 87, 4, 6, 0), (.getfield 115, 0, 1, 0)] [r10, r13] (q := 65) (L' := [some (.ref a0), some (.int b1)]) (st' := [.int (gi v r13 1)]) (v1 := v) (by decide +kernel) rfl ⟨⟨h9, h11⟩, ⟨h12, h14⟩, h15, trivial⟩ ?_
    exact sim_iret (by decide +kernel) rfl rfl rfl
  refine sim_case (df := 111) (lw := 0) (hg := 6) (offs := #[43, 54, 65, 76, 87, 95, 103]) (len := 43) (z := 2) (o := 65) (tg := 66) (by decide +kernel) rfl rfl (by decide) (fun _ => ?_) (fun h24 => ?_)
  · refine sim_grd fun h17 => ?_
    refine sim_bind fun r18 h19 => ?_
    refine sim_grd fun h20 => ?_
    refine sim_bind fun r21 h22 => ?_
    refine sim_grd fun h23 => ?_
    refine sim_seg [(.aload_n 0, 0, 0, 0), (.getfield 26, 5, 5, 0), (.getfield 87, 4, 6, 0), (.getfield 118, 0, 2, 0)] [r18, r21] (q := 76) (L' := [some (.ref a0), some (.int b1)]) (st' := [.int (gi v r21 2)]) (v1 := v) (by decide +kernel) rfl ⟨⟨h17, h19⟩, ⟨h20, h22⟩, h23, trivial⟩ ?_
    exact sim_iret (by decide +kernel) rfl rfl rfl
  refine sim_case (df := 111) (lw := 0) (hg := 6) (offs := #[43, 54, 65, 76, 87, 95, 103]) (len := 43) (z := 3) (o := 76) (tg := 77) (by decide +kernel) rfl rfl (by decide) (fun _ => ?_) (fun h32 => ?_)
  · refine sim_grd fun h25 => ?_
    refine sim_bind fun r26 h27 => ?_
    refine sim_grd fun h28 => ?_
    refine sim_bind fun r29 h30 => ?_
    refine sim_grd fun h31 => ?_
    refine sim_seg [(.aload_n 0, 0, 0, 0), (.getfield 26, 5, 5, 0), (.getfield 69, 4, 7, 0), (.getfield 121, 3, 4, 0)] [r26, r29] (q := 87) (L' := [some (.ref a0), some (.int b1)]) (st' := [.int (gi v r29 4)]) (v1 := v) (by decide +kernel) rfl ⟨⟨h25, h27⟩, ⟨h28, h30⟩, h31, trivial⟩ ?_
    exact sim_iret (by decide +kernel) rfl rfl rfl
  refine sim_case (df := 111) (lw := 0) (hg := 6) (offs := #[43, 54, 65, 76, 87, 95, 103]) (len := 43) (z := 4) (o := 87) (tg := 88) (by decide +kernel) rfl rfl (by decide) (fun _ => ?_) (fun h37 => ?_)
  · refine sim_grd fun h33 => ?_
    refine sim_bind fun r34 h35 => ?_
    refine sim_grd fun h36 => ?_
    refine sim_seg [(.aload_n 0, 0, 0, 0), (.getfield 26, 5, 5, 0), (.getfield 124, 4, 1, 0)] [r34] (q := 95) (L' := [some (.ref a0), some (.int b1)]) (st' := [.int (gi v r34 1)]) (v1 := v) (by decide +kernel) rfl ⟨⟨h33, h35⟩, h36, trivial⟩ ?_
    exact sim_iret (by decide +kernel) rfl rfl rfl
  refine sim_case (df := 111) (lw := 0) (hg := 6) (offs := #[43, 54, 65, 76, 87, 95, 103]) (len := 43) (z := 5) (o := 95) (tg := 96) (by decide +kernel) rfl rfl (by decide) (fun _ => ?_) (fun h42 => ?_)
  · refine sim_grd fun h38 => ?_
    refine sim_bind fun r39 h40 => ?_
    refine sim_grd fun h41 => ?_
    refine sim_seg [(.aload_n 0, 0, 0, 0), (.getfield 26, 5, 5, 0), (.getfield 127, 4, 2, 0)] [r39] (q := 103) (L' := [some (.ref a0), some (.int b1)]) (st' := [.int (gi v r39 2)]) (v1 := v) (by decide +kernel) rfl ⟨⟨h38, h40⟩, h41, trivial⟩ ?_
    exact sim_iret (by decide +kernel) rfl rfl rfl
  refine sim_case (df := 111) (lw := 0) (hg := 6) (offs := #[43, 54, 65, 76, 87, 95, 103]) (len := 43) (z := 6) (o := 103) (tg := 104) (by decide +kernel) rfl rfl (by decide) (fun _ => ?_) (fun h47 => ?_)
  · refine sim_grd fun h43 => ?_
    refine sim_bind fun r44 h45 => ?_
    refine sim_grd fun h46 => ?_
    refine sim_seg [(.aload_n 0, 0, 0, 0), (.getfield 26, 5, 5, 0), (.getfield 130, 4, 3, 0)] [r44] (q := 111) (L' := [some (.ref a0), some (.int b1)]) (st' := [.int (gi v r44 3)]) (v1 := v) (by decide +kernel) rfl ⟨⟨h43, h45⟩, h46, trivial⟩ ?_
    exact sim_iret (by decide +kernel) rfl rfl rfl
  refine sim_tdef (df := 111) (lw := 0) (hg := 6) (offs := #[43, 54, 65, 76, 87, 95, 103]) (len := 43) (tg := 112) (by decide +kernel) rfl (by have eh8 := ne_J h8 (by decide) (by decide); have eh16 := ne_J h16 (by decide) (by decide); have eh24 := ne_J h24 (by decide) (by decide); have eh32 := ne_J h32 (by decide) (by decide); have eh37 := ne_J h37 (by decide) (by decide); have eh42 := ne_J h42 (by decide) (by decide); have eh47 := ne_J h47 (by decide) (by decide); omega) ?_
  exact sim_throw thr0 rfl rfl (by decide) (by decide +kernel) (by decide +kernel) (by decide +kernel) (by decide +kernel) (Nat.le_of_ble_eq_true rfl) rfl
def B_gc_tickShare : bd := (⟨"GateCounter", "tickShare", "()F"⟩, prog_1_method_43_code, 1, (some .float), [], 5, 0)
theorem m_gc_tickShare : mV B_gc_tickShare 5 0 := ⟨⟨⟨by decide +kernel, Or.inl rfl⟩, rfl, (List.mem_of_getElem? (i := 871) (by decide +kernel)), by decide +kernel, (List.mem_of_getElem? (i := 57) (by decide +kernel)), ⟨by decide, by decide⟩, by decide⟩, rfl, (by unfold nar; decide +kernel), (List.mem_of_getElem? (i := 869) (by decide +kernel)), rfl, (List.mem_of_getElem? (i := 870) (by decide +kernel))⟩
noncomputable def F_gc_tickShare (a0 : Nat) (S : shp) (v : vl) : Option UInt32 :=
  grd (kin S a0 = some (0, 5)) <| (gr S a0 5).bind fun r2 => grd (kin S r2 = some (0, 4)) <| (gr S r2 6).bind fun r5 => grd (kin S r5 = some (0, 0)) <| (if (J 0) < (gi v r5 5) then grd (vf_n32 (FP.fdiv (FP.i2f (gi v r5 6)) (FP.i2f (gi v r5 5)))) <| some ((FP.fdiv (FP.i2f (gi v r5 6)) (FP.i2f (gi v r5 5)))) else some (FP.fconst0))
theorem ok_gc_tickShare (a0 : Nat) (S : shp) (v : vl) : SimK B_gc_tickShare 0 (entB (bN B_gc_tickShare) [.ref a0]) [] S v (F_gc_tickShare a0 S v) (ρrf S v) := by
  show SimK B_gc_tickShare 0 [some (.ref a0)] [] S v (F_gc_tickShare a0 S v) _
  unfold F_gc_tickShare
  refine sim_grd fun h1 => ?_
  refine sim_bind fun r2 h3 => ?_
  refine sim_grd fun h4 => ?_
  refine sim_bind fun r5 h6 => ?_
  refine sim_grd fun h7 => ?_
  refine sim_seg [(.aload_n 0, 0, 0, 0), (.getfield 26, 5, 5, 0), (.getfield 87, 4, 6, 0), (.getfield 91, 0, 5, 0)] [r2, r5] (q := 10) (L' := [some (.ref a0)]) (st' := [.int (gi v r5 5)]) (v1 := v) (by decide +kernel) rfl ⟨⟨h1, h3⟩, ⟨h4, h6⟩, h7, trivial⟩ ?_
  refine sim_le0 (o := 29) (tg := 39) (f := 13) (by decide +kernel) rfl rfl (fun _ => ?_) (fun _ => ?_)
  · refine sim_grd fun h8 => ?_
    refine sim_seg [(.aload_n 0, 0, 0, 0), (.getfield 26, 5, 5, 0), (.getfield 87, 4, 6, 0), (.getfield 213, 0, 6, 0), (.i2f, 0, 0, 0), (.aload_n 0, 0, 0, 0), (.getfield 26, 5, 5, 0), (.getfield 87, 4, 6, 0), (.getfield 91, 0, 5, 0), (.i2f, 0, 0, 0), (.fdiv, 0, 0, 0), (.goto 4, 0, 0, 0)] [r2, r5, r2, r5] (q := 40) (L' := [some (.ref a0)]) (st' := [.float (FP.fdiv (FP.i2f (gi v r5 6)) (FP.i2f (gi v r5 5)))]) (v1 := v) (by decide +kernel) rfl ⟨⟨h1, h3⟩, ⟨h4, h6⟩, h7, ⟨h1, h3⟩, ⟨h4, h6⟩, h7, h8, trivial⟩ ?_
    exact sim_fret (by decide +kernel) rfl rfl
  · refine sim_seg [(.fconst 0, 0, 0, 0)] [] (q := 40) (L' := [some (.ref a0)]) (st' := [.float FP.fconst0]) (v1 := v) (by decide +kernel) rfl trivial ?_
    exact sim_fret (by decide +kernel) rfl rfl
def B_gc_keepForUndo : bd := (⟨"GateCounter", "keepForUndo", "()V"⟩, prog_1_method_71_code, 1, none, [], 5, 4)
theorem m_gc_keepForUndo : mV B_gc_keepForUndo 5 0 := ⟨⟨⟨by decide +kernel, Or.inl rfl⟩, rfl, (List.mem_of_getElem? (i := 1011) (by decide +kernel)), by decide +kernel, (List.mem_of_getElem? (i := 57) (by decide +kernel)), ⟨by decide, by decide⟩, by decide⟩, rfl, (by unfold nar; decide +kernel), (List.mem_of_getElem? (i := 1010) (by decide +kernel)), rfl, (List.mem_of_getElem? (i := 36) (by decide +kernel))⟩
noncomputable def F_gc_keepForUndo (N : Nat) (a0 : Nat) (S : shp) (v : vl) : Option (shp × vl) :=
  grd (kin S a0 = some (0, 5)) <| (gr S a0 10).bind fun r2 => (F_ma_floorMod (gi v a0 11) (J 8) S v).bind fun x4 => grd (kin S r2 = some (4, 8)) <| grd (vp_in x4 (alen S r2)) <| (gr S r2 (Int32.toNatClampNeg x4)).bind fun r7 => (gr S a0 5).bind fun r9 => grd (kin S r7 = some (0, 4)) <| (F_st_copyFrom N r7 r9 S v).bind fun (S12, w13) => lt (si w13 a0 11 ((gi w13 a0 11) + (J 1))) fun w15 => (F_ma_min (J 8) ((gi w15 a0 12) + (J 1)) S12 w15).bind fun x16 => lt (si w15 a0 12 x16) fun w17 => some ((S12, w17))
theorem ok_gc_keepForUndo (N : Nat) (a0 : Nat) (S : shp) (v : vl) : SimK B_gc_keepForUndo 0 (entB (bN B_gc_keepForUndo) [.ref a0]) [] S v (F_gc_keepForUndo N a0 S v) (ρgv) := by
  show SimK B_gc_keepForUndo 0 [some (.ref a0)] [] S v (F_gc_keepForUndo N a0 S v) _
  unfold F_gc_keepForUndo
  refine sim_grd fun h1 => ?_
  refine sim_bind fun r2 h3 => ?_
  refine sim_seg [(.aload_n 0, 0, 0, 0), (.getfield 39, 5, 10, 0), (.aload_n 0, 0, 0, 0), (.getfield 336, 5, 11, 0), (.bipush 8, 0, 0, 8)] [r2] (q := 10) (L' := [some (.ref a0)]) (st' := [.int (J 8), .int (gi v a0 11), .ref r2]) (v1 := v) (by decide +kernel) rfl ⟨⟨h1, h3⟩, h1, trivial⟩ ?_
  refine sc_ri (pc3 := 13) (cf_S (idx := 339) [.int (gi v a0 11), .int (J 8)] m_ma_floorMod ⟨by decide, by decide⟩ (List.mem_of_getElem? (i := 1012) (by decide +kernel)) rfl (Nat.le_of_ble_eq_true rfl) (by decide +kernel) (Nat.le_of_ble_eq_true rfl) rfl) (ok_ma_floorMod (gi v a0 11) (J 8) S v) rfl (fun x4 => ?_)
  refine sim_grd fun h5 => ?_
  refine sim_grd fun h6 => ?_
  refine sim_bind fun r7 h8 => ?_
  refine sim_bind fun r9 h10 => ?_
  refine sim_seg [(.aaload, 0, 0, 0), (.aload_n 0, 0, 0, 0), (.getfield 26, 5, 5, 0)] [r7, r9] (q := 18) (L' := [some (.ref a0)]) (st' := [.ref r9, .ref r7]) (v1 := v) (by decide +kernel) rfl ⟨⟨Or.inl (kin_alen h5), h6, h8⟩, ⟨h1, h10⟩, trivial⟩ ?_
  refine sim_grd fun h11 => ?_
  refine sc_gv (pc3 := 21) (cf_V (idx := 58) (ci := 4) [.ref r9] m_st_copyFrom (by decide) ⟨by decide, by decide⟩ (List.mem_of_getElem? (i := 498) (by decide +kernel)) rfl (Nat.le_of_ble_eq_true rfl) h11 (by decide +kernel) (Nat.le_of_ble_eq_true rfl) rfl) (ok_st_copyFrom N r7 r9 S v) rfl (fun S12 w13 h14 => ?_)
  refine sim_seg [(.aload_n 0, 0, 0, 0), (.dup, 0, 0, 0), (.getfield 336, 5, 11, 0), (.iconst 1, 0, 0, 1), (.iadd, 0, 0, 0), (.putfield 336, 5, 11, 0), (.aload_n 0, 0, 0, 0), (.bipush 8, 0, 0, 8), (.aload_n 0, 0, 0, 0)] [] (q := 35) (L' := [some (.ref a0)]) (st' := [.ref a0, .int (J 8), .ref a0]) (v1 := (si w13 a0 11 ((gi w13 a0 11) + (J 1)))) (by decide +kernel) rfl ⟨(h14.2.2.2.2 _ _ h1), (h14.2.2.2.2 _ _ h1), trivial⟩ ?_
  refine sim_lt (x := (si w13 a0 11 ((gi w13 a0 11) + (J 1)))) ?_
  generalize (si w13 a0 11 ((gi w13 a0 11) + (J 1))) = w15
  refine sim_seg [(.getfield 62, 5, 12, 0), (.iconst 1, 0, 0, 1), (.iadd, 0, 0, 0)] [] (q := 40) (L' := [some (.ref a0)]) (st' := [.int ((gi w15 a0 12) + (J 1)), .int (J 8), .ref a0]) (v1 := w15) (by decide +kernel) rfl ⟨(h14.2.2.2.2 _ _ h1), trivial⟩ ?_
  refine sc_ri (pc3 := 43) (cf_S (idx := 220) [.int (J 8), .int ((gi w15 a0 12) + (J 1))] m_ma_min ⟨by decide, by decide⟩ (List.mem_of_getElem? (i := 919) (by decide +kernel)) rfl (Nat.le_of_ble_eq_true rfl) (by decide +kernel) (Nat.le_of_ble_eq_true rfl) rfl) (ok_ma_min (J 8) ((gi w15 a0 12) + (J 1)) S12 w15) rfl (fun x16 => ?_)
  refine sim_seg [(.putfield 62, 5, 12, 0)] [] (q := 46) (L' := [some (.ref a0)]) (st' := []) (v1 := (si w15 a0 12 x16)) (by decide +kernel) rfl ⟨(h14.2.2.2.2 _ _ h1), trivial⟩ ?_
  refine sim_lt (x := (si w15 a0 12 x16)) ?_
  generalize (si w15 a0 12 x16) = w17
  exact sim_vret (by decide +kernel) rfl rfl
def B_gc_acceptChange : bd := (⟨"GateCounter", "acceptChange", "()V"⟩, prog_1_method_72_code, 1, none, [], 5, 5)
theorem m_gc_acceptChange : mV B_gc_acceptChange 5 0 := ⟨⟨⟨by decide +kernel, Or.inl rfl⟩, rfl, (List.mem_of_getElem? (i := 1007) (by decide +kernel)), by decide +kernel, (List.mem_of_getElem? (i := 57) (by decide +kernel)), ⟨by decide, by decide⟩, by decide⟩, rfl, (by unfold nar; decide +kernel), (List.mem_of_getElem? (i := 1006) (by decide +kernel)), rfl, (List.mem_of_getElem? (i := 35) (by decide +kernel))⟩
noncomputable def F_gc_acceptChange (N : Nat) (a0 : Nat) (S : shp) (v : vl) : Option (shp × vl) :=
  grd (kin S a0 = some (0, 5)) <| lt (si (si v a0 2 (J 0)) a0 3 (J 0)) fun w2 => (F_gc_keepForUndo N a0 S w2).bind fun (S3, w4) => some ((S3, w4))
theorem ok_gc_acceptChange (N : Nat) (a0 : Nat) (S : shp) (v : vl) : SimK B_gc_acceptChange 0 (entB (bN B_gc_acceptChange) [.ref a0]) [] S v (F_gc_acceptChange N a0 S v) (ρgv) := by
  show SimK B_gc_acceptChange 0 [some (.ref a0)] [] S v (F_gc_acceptChange N a0 S v) _
  unfold F_gc_acceptChange
  refine sim_grd fun h1 => ?_
  refine sim_seg [(.aload_n 0, 0, 0, 0), (.iconst 0, 0, 0, 0), (.putfield 180, 5, 2, 0), (.aload_n 0, 0, 0, 0), (.iconst 0, 0, 0, 0), (.putfield 183, 5, 3, 0), (.aload_n 0, 0, 0, 0)] [] (q := 11) (L' := [some (.ref a0)]) (st' := [.ref a0]) (v1 := (si (si v a0 2 (J 0)) a0 3 (J 0))) (by decide +kernel) rfl ⟨h1, h1, trivial⟩ ?_
  refine sim_lt (x := (si (si v a0 2 (J 0)) a0 3 (J 0))) ?_
  generalize (si (si v a0 2 (J 0)) a0 3 (J 0)) = w2
  refine sc_gv (pc3 := 14) (cf_V (idx := 289) (ci := 5) [] m_gc_keepForUndo (by decide) ⟨by decide, by decide⟩ (List.mem_of_getElem? (i := 1008) (by decide +kernel)) rfl (Nat.le_of_ble_eq_true rfl) h1 (by decide +kernel) (Nat.le_of_ble_eq_true rfl) rfl) (ok_gc_keepForUndo N a0 S w2) rfl (fun S3 w4 h5 => ?_)
  exact sim_vret (by decide +kernel) rfl rfl
def B_gc_digitsOf : bd := (⟨"GateCounter", "digitsOf", "(I)I"⟩, prog_1_method_76_code, 5, (some .int), [], 5, 0)
theorem m_gc_digitsOf : mS B_gc_digitsOf 1 := ⟨⟨⟨by decide +kernel, Or.inl rfl⟩, rfl, (List.mem_of_getElem? (i := 1027) (by decide +kernel)), by decide +kernel, (List.mem_of_getElem? (i := 57) (by decide +kernel)), ⟨by decide, by decide⟩, by decide⟩, rfl, (by unfold nar; decide +kernel), (List.mem_of_getElem? (i := 1026) (by decide +kernel))⟩
noncomputable def Y_gc_digitsOf_7 (N : Nat)  (i7 : Int32 → Int32 → Int64 → Int32 → Option Int32) (S : shp) (v : vl)  (p0 : Int32) (p1 : Int32) (p2 : Int64) (p4 : Int32) : Option Int32 :=
  (if p4 < (J 10) then (if (lg_cmp (Int32.toInt64 p0) p2) < (J 0) then some (p1) else i7 p0 (p1 + (J 1)) (p2 * (JL 10)) (p4 + (J 1))) else some (p1))
noncomputable def K_gc_digitsOf_7 (N : Nat)  (n : Nat) (S : shp) (v : vl) : Int32 → Int32 → Int64 → Int32 → Option Int32 :=
  Nat.rec (motive := fun _ => Int32 → Int32 → Int64 → Int32 → Option Int32) (fun _ _ _ _ => none) (fun _ i => Y_gc_digitsOf_7 N  i S v) n
theorem sY_gc_digitsOf_7 (N : Nat)  (i7 : Int32 → Int32 → Int64 → Int32 → Option Int32) (S : shp) (v : vl)  (j7 : ∀ (p0 : Int32) (p1 : Int32) (p2 : Int64) (p4 : Int32), SimK B_gc_digitsOf 7 [some (.int p0), some (.int p1), some (.long p2), none, some (.int p4)] [] S v (i7 p0 p1 p2 p4) (ρri S v))  (p0 : Int32) (p1 : Int32) (p2 : Int64) (p4 : Int32) : SimK B_gc_digitsOf 7 [some (.int p0), some (.int p1), some (.long p2), none, some (.int p4)] [] S v (Y_gc_digitsOf_7 N  i7 S v  p0 p1 p2 p4) (ρri S v) := by
  unfold Y_gc_digitsOf_7
  refine sim_seg [(.iload 4, 0, 0, 0), (.bipush 10, 0, 0, 10)] [] (q := 11) (L' := [some (.int p0), some (.int p1), some (.long p2), none, some (.int p4)]) (st' := [.int (J 10), .int p4]) (v1 := v) (by decide +kernel) rfl trivial ?_
  refine sim_ge (o := 25) (tg := 36) (f := 14) (by decide +kernel) rfl rfl (fun _ => ?_) (fun _ => ?_)
  · refine sim_seg [(.iload_n 0, 0, 0, 0), (.i2l, 0, 0, 0), (.lload_n 2, 0, 0, 0), (.lcmp, 0, 0, 0)] [] (q := 18) (L' := [some (.int p0), some (.int p1), some (.long p2), none, some (.int p4)]) (st' := [.int (lg_cmp (Int32.toInt64 p0) p2)]) (v1 := v) (by decide +kernel) rfl trivial ?_
    refine sim_lt0 (o := 18) (tg := 36) (f := 21) (by decide +kernel) rfl rfl (fun _ => ?_) (fun _ => ?_)
    · refine sim_seg [(.iload_n 1, 0, 0, 0)] [] (q := 37) (L' := [some (.int p0), some (.int p1), some (.long p2), none, some (.int p4)]) (st' := [.int p1]) (v1 := v) (by decide +kernel) rfl trivial ?_
      exact sim_iret (by decide +kernel) rfl rfl rfl
    · refine sim_seg [(.iinc 1 1, 0, 0, 1)] [] (q := 24) (L' := [some (.int p0), some (.int (p1 + (J 1))), some (.long p2), none, some (.int p4)]) (st' := []) (v1 := v) (by decide +kernel) rfl trivial ?_
      refine sim_seg [(.lload_n 2, 0, 0, 0), (.ldc2_w 367, 0, 0, 10), (.lmul, 0, 0, 0), (.lstore_n 2, 0, 0, 0)] [] (q := 30) (L' := [some (.int p0), some (.int (p1 + (J 1))), some (.long (p2 * (JL 10))), none, some (.int p4)]) (st' := []) (v1 := v) (by decide +kernel) rfl trivial ?_
      refine sim_seg [(.iinc 4 1, 0, 0, 1)] [] (q := 33) (L' := [some (.int p0), some (.int (p1 + (J 1))), some (.long (p2 * (JL 10))), none, some (.int (p4 + (J 1)))]) (st' := []) (v1 := v) (by decide +kernel) rfl trivial ?_
      refine sim_seg [(.goto (-26), 0, 0, 0)] [] (q := 7) (L' := [some (.int p0), some (.int (p1 + (J 1))), some (.long (p2 * (JL 10))), none, some (.int (p4 + (J 1)))]) (st' := []) (v1 := v) (by decide +kernel) rfl trivial ?_
      exact j7 p0 (p1 + (J 1)) (p2 * (JL 10)) (p4 + (J 1))
  · refine sim_seg [(.iload_n 1, 0, 0, 0)] [] (q := 37) (L' := [some (.int p0), some (.int p1), some (.long p2), none, some (.int p4)]) (st' := [.int p1]) (v1 := v) (by decide +kernel) rfl trivial ?_
    exact sim_iret (by decide +kernel) rfl rfl rfl
theorem sR_gc_digitsOf_7 (N : Nat)  (S : shp) (v : vl)  (n : Nat) : ∀  (p0 : Int32) (p1 : Int32) (p2 : Int64) (p4 : Int32), SimK B_gc_digitsOf 7 [some (.int p0), some (.int p1), some (.long p2), none, some (.int p4)] [] S v (K_gc_digitsOf_7 N  n S v  p0 p1 p2 p4) (ρri S v) := by
  induction n with
  | zero => intro p0 p1 p2 p4; exact sim_none
  | succ k ih => intro p0 p1 p2 p4; exact sY_gc_digitsOf_7 N   _ S v  ih p0 p1 p2 p4
theorem sK_gc_digitsOf_7 (N : Nat)  (n : Nat) (S : shp) (v : vl) (p0 : Int32) (p1 : Int32) (p2 : Int64) (p4 : Int32) : SimK B_gc_digitsOf 7 [some (.int p0), some (.int p1), some (.long p2), none, some (.int p4)] [] S v (K_gc_digitsOf_7 N  n S v  p0 p1 p2 p4) (ρri S v) := sR_gc_digitsOf_7 N   S v  n  p0 p1 p2 p4
noncomputable def F_gc_digitsOf (N : Nat) (b0 : Int32) (S : shp) (v : vl) : Option Int32 :=
  K_gc_digitsOf_7 N  N S v b0 (J 0) (JL 1) (J 0)
theorem ok_gc_digitsOf (N : Nat) (b0 : Int32) (S : shp) (v : vl) : SimK B_gc_digitsOf 0 (entB (bN B_gc_digitsOf) [.int b0]) [] S v (F_gc_digitsOf N b0 S v) (ρri S v) := by
  show SimK B_gc_digitsOf 0 [some (.int b0), none, none, none, none] [] S v (F_gc_digitsOf N b0 S v) _
  unfold F_gc_digitsOf
  refine sim_seg [(.iconst 0, 0, 0, 0), (.istore_n 1, 0, 0, 0)] [] (q := 2) (L' := [some (.int b0), some (.int (J 0)), none, none, none]) (st' := []) (v1 := v) (by decide +kernel) rfl trivial ?_
  refine sim_seg [(.lconst 1, 0, 0, 1), (.lstore_n 2, 0, 0, 0)] [] (q := 4) (L' := [some (.int b0), some (.int (J 0)), some (.long (JL 1)), none, none]) (st' := []) (v1 := v) (by decide +kernel) rfl trivial ?_
  refine sim_seg [(.iconst 0, 0, 0, 0), (.istore 4, 0, 0, 0)] [] (q := 7) (L' := [some (.int b0), some (.int (J 0)), some (.long (JL 1)), none, some (.int (J 0))]) (st' := []) (v1 := v) (by decide +kernel) rfl trivial ?_
  exact sK_gc_digitsOf_7 N N S v b0 (J 0) (JL 1) (J 0)
def B_ms_number : bd := (⟨"GateCounter$Measurement", "number", "(I)I"⟩, prog_3_method_2_code, 2, (some .int), [], 1, 1)
theorem m_ms_number : mV B_ms_number 1 1 := ⟨⟨⟨by decide +kernel, Or.inl rfl⟩, rfl, (List.mem_of_getElem? (i := 1024) (by decide +kernel)), by decide +kernel, (List.mem_of_getElem? (i := 66) (by decide +kernel)), ⟨by decide, by decide⟩, by decide⟩, rfl, (by unfold nar; decide +kernel), (List.mem_of_getElem? (i := 1022) (by decide +kernel)), rfl, (List.mem_of_getElem? (i := 1023) (by decide +kernel))⟩
noncomputable def F_ms_number (N : Nat) (a0 : Nat) (b1 : Int32) (S : shp) (v : vl) : Option Int32 :=
  (if b1 = J 0 then grd (kin S a0 = some (0, 1)) <| (if (gi v a0 0) = (J 0) then some ((J 0)) else some ((J 1))) else if b1 = J 1 then grd (kin S a0 = some (0, 1)) <| some ((gi v a0 1)) else if b1 = J 2 then grd (kin S a0 = some (0, 1)) <| some ((gi v a0 2)) else if b1 = J 3 then grd (kin S a0 = some (0, 1)) <| some ((gi v a0 3)) else if b1 = J 4 then grd (kin S a0 = some (0, 1)) <| some ((gi v a0 4)) else if b1 = J 5 then grd (kin S a0 = some (0, 1)) <| (F_gc_digitsOf N (gi v a0 3) S v).bind fun x12 => some (x12) else if b1 = J 6 then grd (kin S a0 = some (0, 1)) <| some ((gi v a0 5)) else grd (kin S a0 = some (0, 1)) <| some ((gi v a0 6)))
theorem ok_ms_number (N : Nat) (a0 : Nat) (b1 : Int32) (S : shp) (v : vl) : SimK B_ms_number 0 (entB (bN B_ms_number) [.ref a0, .int b1]) [] S v (F_ms_number N a0 b1 S v) (ρri S v) := by
  show SimK B_ms_number 0 [some (.ref a0), some (.int b1)] [] S v (F_ms_number N a0 b1 S v) _
  unfold F_ms_number
  refine sim_seg [(.iload_n 1, 0, 0, 0)] [] (q := 1) (L' := [some (.ref a0), some (.int b1)]) (st' := [.int b1]) (v1 := v) (by decide +kernel) rfl trivial ?_
  refine sim_case (df := 89) (lw := 0) (hg := 6) (offs := #[43, 56, 61, 66, 71, 76, 84]) (len := 43) (z := 0) (o := 43) (tg := 44) (by decide +kernel) rfl rfl (by decide) (fun _ => ?_) (fun h2 => ?_)
  · refine sim_grd fun h1 => ?_
    refine sim_seg [(.aload_n 0, 0, 0, 0), (.getfield 9, 1, 0, 0)] [] (q := 48) (L' := [some (.ref a0), some (.int b1)]) (st' := [.int (gi v a0 0)]) (v1 := v) (by decide +kernel) rfl ⟨h1, trivial⟩ ?_
    refine sim_eq0 (o := 7) (tg := 55) (f := 51) (by decide +kernel) rfl rfl (fun _ => ?_) (fun _ => ?_)
    · refine sim_seg [(.iconst 0, 0, 0, 0)] [] (q := 56) (L' := [some (.ref a0), some (.int b1)]) (st' := [.int (J 0)]) (v1 := v) (by decide +kernel) rfl trivial ?_
      exact sim_iret (by decide +kernel) rfl rfl rfl
    · refine sim_seg [(.iconst 1, 0, 0, 1), (.goto 4, 0, 0, 0)] [] (q := 56) (L' := [some (.ref a0), some (.int b1)]) (st' := [.int (J 1)]) (v1 := v) (by decide +kernel) rfl trivial ?_
      exact sim_iret (by decide +kernel) rfl rfl rfl
  refine sim_case (df := 89) (lw := 0) (hg := 6) (offs := #[43, 56, 61, 66, 71, 76, 84]) (len := 43) (z := 1) (o := 56) (tg := 57) (by decide +kernel) rfl rfl (by decide) (fun _ => ?_) (fun h4 => ?_)
  · refine sim_grd fun h3 => ?_
    refine sim_seg [(.aload_n 0, 0, 0, 0), (.getfield 15, 1, 1, 0)] [] (q := 61) (L' := [some (.ref a0), some (.int b1)]) (st' := [.int (gi v a0 1)]) (v1 := v) (by decide +kernel) rfl ⟨h3, trivial⟩ ?_
    exact sim_iret (by decide +kernel) rfl rfl rfl
  refine sim_case (df := 89) (lw := 0) (hg := 6) (offs := #[43, 56, 61, 66, 71, 76, 84]) (len := 43) (z := 2) (o := 61) (tg := 62) (by decide +kernel) rfl rfl (by decide) (fun _ => ?_) (fun h6 => ?_)
  · refine sim_grd fun h5 => ?_
    refine sim_seg [(.aload_n 0, 0, 0, 0), (.getfield 19, 1, 2, 0)] [] (q := 66) (L' := [some (.ref a0), some (.int b1)]) (st' := [.int (gi v a0 2)]) (v1 := v) (by decide +kernel) rfl ⟨h5, trivial⟩ ?_
    exact sim_iret (by decide +kernel) rfl rfl rfl
  refine sim_case (df := 89) (lw := 0) (hg := 6) (offs := #[43, 56, 61, 66, 71, 76, 84]) (len := 43) (z := 3) (o := 66) (tg := 67) (by decide +kernel) rfl rfl (by decide) (fun _ => ?_) (fun h8 => ?_)
  · refine sim_grd fun h7 => ?_
    refine sim_seg [(.aload_n 0, 0, 0, 0), (.getfield 22, 1, 3, 0)] [] (q := 71) (L' := [some (.ref a0), some (.int b1)]) (st' := [.int (gi v a0 3)]) (v1 := v) (by decide +kernel) rfl ⟨h7, trivial⟩ ?_
    exact sim_iret (by decide +kernel) rfl rfl rfl
  refine sim_case (df := 89) (lw := 0) (hg := 6) (offs := #[43, 56, 61, 66, 71, 76, 84]) (len := 43) (z := 4) (o := 71) (tg := 72) (by decide +kernel) rfl rfl (by decide) (fun _ => ?_) (fun h10 => ?_)
  · refine sim_grd fun h9 => ?_
    refine sim_seg [(.aload_n 0, 0, 0, 0), (.getfield 25, 1, 4, 0)] [] (q := 76) (L' := [some (.ref a0), some (.int b1)]) (st' := [.int (gi v a0 4)]) (v1 := v) (by decide +kernel) rfl ⟨h9, trivial⟩ ?_
    exact sim_iret (by decide +kernel) rfl rfl rfl
  refine sim_case (df := 89) (lw := 0) (hg := 6) (offs := #[43, 56, 61, 66, 71, 76, 84]) (len := 43) (z := 5) (o := 76) (tg := 77) (by decide +kernel) rfl rfl (by decide) (fun _ => ?_) (fun h13 => ?_)
  · refine sim_grd fun h11 => ?_
    refine sim_seg [(.aload_n 0, 0, 0, 0), (.getfield 22, 1, 3, 0)] [] (q := 81) (L' := [some (.ref a0), some (.int b1)]) (st' := [.int (gi v a0 3)]) (v1 := v) (by decide +kernel) rfl ⟨h11, trivial⟩ ?_
    refine sc_ri (pc3 := 84) (cf_SN (idx := 34) (host := "GateCounter") [.int (gi v a0 3)] m_gc_digitsOf ⟨by decide, by decide⟩ (by decide +kernel) rfl (Nat.le_of_ble_eq_true rfl) (by decide +kernel) (Nat.le_of_ble_eq_true rfl) rfl) (ok_gc_digitsOf N (gi v a0 3) S v) rfl (fun x12 => ?_)
    exact sim_iret (by decide +kernel) rfl rfl rfl
  refine sim_case (df := 89) (lw := 0) (hg := 6) (offs := #[43, 56, 61, 66, 71, 76, 84]) (len := 43) (z := 6) (o := 84) (tg := 85) (by decide +kernel) rfl rfl (by decide) (fun _ => ?_) (fun h15 => ?_)
  · refine sim_grd fun h14 => ?_
    refine sim_seg [(.aload_n 0, 0, 0, 0), (.getfield 28, 1, 5, 0)] [] (q := 89) (L' := [some (.ref a0), some (.int b1)]) (st' := [.int (gi v a0 5)]) (v1 := v) (by decide +kernel) rfl ⟨h14, trivial⟩ ?_
    exact sim_iret (by decide +kernel) rfl rfl rfl
  refine sim_tdef (df := 89) (lw := 0) (hg := 6) (offs := #[43, 56, 61, 66, 71, 76, 84]) (len := 43) (tg := 90) (by decide +kernel) rfl (by have eh2 := ne_J h2 (by decide) (by decide); have eh4 := ne_J h4 (by decide) (by decide); have eh6 := ne_J h6 (by decide) (by decide); have eh8 := ne_J h8 (by decide) (by decide); have eh10 := ne_J h10 (by decide) (by decide); have eh13 := ne_J h13 (by decide) (by decide); have eh15 := ne_J h15 (by decide) (by decide); omega) ?_
  refine sim_grd fun h16 => ?_
  refine sim_seg [(.aload_n 0, 0, 0, 0), (.getfield 31, 1, 6, 0)] [] (q := 94) (L' := [some (.ref a0), some (.int b1)]) (st' := [.int (gi v a0 6)]) (v1 := v) (by decide +kernel) rfl ⟨h16, trivial⟩ ?_
  exact sim_iret (by decide +kernel) rfl rfl rfl
def B_st_at : bd := (⟨"GateCounter$State", "at", "(I)LGateCounter$Measurement;"⟩, prog_6_method_12_code, 2, (some (.object "GateCounter$Measurement")), [], 4, 0)
theorem m_st_at : mV B_st_at 4 1 := ⟨⟨⟨by decide +kernel, Or.inl rfl⟩, rfl, (List.mem_of_getElem? (i := 1020) (by decide +kernel)), by decide +kernel, (List.mem_of_getElem? (i := 59) (by decide +kernel)), ⟨by decide, by decide⟩, by decide⟩, rfl, (by unfold nar; decide +kernel), (List.mem_of_getElem? (i := 1018) (by decide +kernel)), rfl, (List.mem_of_getElem? (i := 1019) (by decide +kernel))⟩
noncomputable def F_st_at (a0 : Nat) (b1 : Int32) (S : shp) (v : vl) : Option (Option Nat) :=
  (if b1 < (J 0) then some (none) else grd (kin S a0 = some (0, 4)) <| (if b1 < (gi v a0 5) then (gr S a0 8).bind fun r2 => grd (kin S r2 = some (5, 20)) <| grd (vp_in b1 (alen S r2)) <| (gr S r2 (Int32.toNatClampNeg b1)).bind fun r6 => some ((some r6)) else some (none)))
theorem ok_st_at (a0 : Nat) (b1 : Int32) (S : shp) (v : vl) : SimK B_st_at 0 (entB (bN B_st_at) [.ref a0, .int b1]) [] S v (F_st_at a0 b1 S v) (ρrq S v) := by
  show SimK B_st_at 0 [some (.ref a0), some (.int b1)] [] S v (F_st_at a0 b1 S v) _
  unfold F_st_at
  refine sim_seg [(.iload_n 1, 0, 0, 0)] [] (q := 1) (L' := [some (.ref a0), some (.int b1)]) (st' := [.int b1]) (v1 := v) (by decide +kernel) rfl trivial ?_
  refine sim_lt0 (o := 20) (tg := 21) (f := 4) (by decide +kernel) rfl rfl (fun _ => ?_) (fun _ => ?_)
  · refine sim_seg [(.aconst_null, 0, 0, 0)] [] (q := 22) (L' := [some (.ref a0), some (.int b1)]) (st' := [.null]) (v1 := v) (by decide +kernel) rfl trivial ?_
    exact sim_aretN (by decide +kernel) rfl (Or.inl ⟨_, rfl⟩) rfl
  · refine sim_grd fun h1 => ?_
    refine sim_seg [(.iload_n 1, 0, 0, 0), (.aload_n 0, 0, 0, 0), (.getfield 50, 4, 5, 0)] [] (q := 9) (L' := [some (.ref a0), some (.int b1)]) (st' := [.int (gi v a0 5), .int b1]) (v1 := v) (by decide +kernel) rfl ⟨h1, trivial⟩ ?_
    refine sim_ge (o := 12) (tg := 21) (f := 12) (by decide +kernel) rfl rfl (fun _ => ?_) (fun _ => ?_)
    · refine sim_bind fun r2 h3 => ?_
      refine sim_grd fun h4 => ?_
      refine sim_grd fun h5 => ?_
      refine sim_bind fun r6 h7 => ?_
      refine sim_seg [(.aload_n 0, 0, 0, 0), (.getfield 27, 4, 8, 0), (.iload_n 1, 0, 0, 0), (.aaload, 0, 0, 0), (.goto 4, 0, 0, 0)] [r2, r6] (q := 22) (L' := [some (.ref a0), some (.int b1)]) (st' := [.ref r6]) (v1 := v) (by decide +kernel) rfl ⟨⟨h1, h3⟩, ⟨Or.inr (kin_alen h4), h5, h7⟩, trivial⟩ ?_
      exact sim_aretS (by decide +kernel) rfl (Or.inl ⟨_, rfl⟩) rfl
    · refine sim_seg [(.aconst_null, 0, 0, 0)] [] (q := 22) (L' := [some (.ref a0), some (.int b1)]) (st' := [.null]) (v1 := v) (by decide +kernel) rfl trivial ?_
      exact sim_aretN (by decide +kernel) rfl (Or.inl ⟨_, rfl⟩) rfl
def B_st_latestNumber : bd := (⟨"GateCounter$State", "latestNumber", "(I)I"⟩, prog_6_method_13_code, 3, (some .int), [], 4, 2)
theorem m_st_latestNumber : mV B_st_latestNumber 4 1 := ⟨⟨⟨by decide +kernel, Or.inl rfl⟩, rfl, (List.mem_of_getElem? (i := 1016) (by decide +kernel)), by decide +kernel, (List.mem_of_getElem? (i := 59) (by decide +kernel)), ⟨by decide, by decide⟩, by decide⟩, rfl, (by unfold nar; decide +kernel), (List.mem_of_getElem? (i := 1014) (by decide +kernel)), rfl, (List.mem_of_getElem? (i := 1015) (by decide +kernel))⟩
noncomputable def F_st_latestNumber (N : Nat) (a0 : Nat) (b1 : Int32) (S : shp) (v : vl) : Option Int32 :=
  grd (kin S a0 = some (0, 4)) <| (F_st_at a0 ((gi v a0 5) - (J 1)) S v).bind fun q2 => oc2 q2 (some ((J (-1)))) fun r3 => grd (kin S r3 = some (0, 1)) <| (F_ms_number N r3 b1 S v).bind fun x5 => some (x5)
theorem ok_st_latestNumber (N : Nat) (a0 : Nat) (b1 : Int32) (S : shp) (v : vl) : SimK B_st_latestNumber 0 (entB (bN B_st_latestNumber) [.ref a0, .int b1]) [] S v (F_st_latestNumber N a0 b1 S v) (ρri S v) := by
  show SimK B_st_latestNumber 0 [some (.ref a0), some (.int b1), none] [] S v (F_st_latestNumber N a0 b1 S v) _
  unfold F_st_latestNumber
  refine sim_grd fun h1 => ?_
  refine sim_seg [(.aload_n 0, 0, 0, 0), (.aload_n 0, 0, 0, 0), (.getfield 50, 4, 5, 0), (.iconst 1, 0, 0, 1), (.isub, 0, 0, 0)] [] (q := 7) (L' := [some (.ref a0), some (.int b1), none]) (st' := [.int ((gi v a0 5) - (J 1)), .ref a0]) (v1 := v) (by decide +kernel) rfl ⟨h1, trivial⟩ ?_
  refine sc_rq (pc3 := 10) (cf_V (idx := 136) (ci := 4) [.int ((gi v a0 5) - (J 1))] m_st_at (by decide) ⟨by decide, by decide⟩ (List.mem_of_getElem? (i := 1017) (by decide +kernel)) rfl (Nat.le_of_ble_eq_true rfl) h1 (by decide +kernel) (Nat.le_of_ble_eq_true rfl) rfl) (ok_st_at a0 ((gi v a0 5) - (J 1)) S v) rfl (fun q2 => ?_)
  refine sim_oc2 (fun _ => ?_) (fun r3 _ => ?_)
  · refine sim_seg [(.astore_n 2, 0, 0, 0)] [] (q := 11) (L' := [some (.ref a0), some (.int b1), some (.null)]) (st' := []) (v1 := v) (by decide +kernel) rfl trivial ?_
    refine sim_seg [(.aload_n 2, 0, 0, 0)] [] (q := 12) (L' := [some (.ref a0), some (.int b1), some (.null)]) (st' := [.null]) (v1 := v) (by decide +kernel) rfl trivial ?_
    refine sim_ifnonnullN (o := 7) (f := 15) (by decide +kernel) rfl ?_
    refine sim_seg [(.iconst (-1), 0, 0, (-1)), (.goto 8, 0, 0, 0)] [] (q := 24) (L' := [some (.ref a0), some (.int b1), some (.null)]) (st' := [.int (J (-1))]) (v1 := v) (by decide +kernel) rfl trivial ?_
    exact sim_iret (by decide +kernel) rfl rfl rfl
  · refine sim_seg [(.astore_n 2, 0, 0, 0)] [] (q := 11) (L' := [some (.ref a0), some (.int b1), some (.ref r3)]) (st' := []) (v1 := v) (by decide +kernel) rfl trivial ?_
    refine sim_seg [(.aload_n 2, 0, 0, 0)] [] (q := 12) (L' := [some (.ref a0), some (.int b1), some (.ref r3)]) (st' := [.ref r3]) (v1 := v) (by decide +kernel) rfl trivial ?_
    refine sim_ifnonnullS (o := 7) (tg := 19) (by decide +kernel) rfl ?_
    refine sim_seg [(.aload_n 2, 0, 0, 0), (.iload_n 1, 0, 0, 0)] [] (q := 21) (L' := [some (.ref a0), some (.int b1), some (.ref r3)]) (st' := [.int b1, .ref r3]) (v1 := v) (by decide +kernel) rfl trivial ?_
    refine sim_grd fun h4 => ?_
    refine sc_ri (pc3 := 24) (cf_V (idx := 140) (ci := 1) [.int b1] m_ms_number (by decide) ⟨by decide, by decide⟩ (List.mem_of_getElem? (i := 1021) (by decide +kernel)) rfl (Nat.le_of_ble_eq_true rfl) h4 (by decide +kernel) (Nat.le_of_ble_eq_true rfl) rfl) (ok_ms_number N r3 b1 S v) rfl (fun x5 => ?_)
    exact sim_iret (by decide +kernel) rfl rfl rfl
def B_gc_accept : bd := (⟨"GateCounter", "accept", "(LGateCounter$State;)I"⟩, prog_1_method_73_code, 2, (some .int), [], 5, 6)
theorem m_gc_accept : mV B_gc_accept 5 1 := ⟨⟨⟨by decide +kernel, Or.inl rfl⟩, rfl, (List.mem_of_getElem? (i := 1003) (by decide +kernel)), by decide +kernel, (List.mem_of_getElem? (i := 57) (by decide +kernel)), ⟨by decide, by decide⟩, by decide⟩, rfl, (by unfold nar; decide +kernel), (List.mem_of_getElem? (i := 1002) (by decide +kernel)), rfl, (List.mem_of_getElem? (i := 34) (by decide +kernel))⟩
noncomputable def F_gc_accept (N : Nat) (a0 : Nat) (a1 : Nat) (S : shp) (v : vl) : Option (Int32 × shp × vl) :=
  grd (kin S a0 = some (0, 5)) <| (F_gc_acceptChange N a0 S v).bind fun (S2, w3) => (gr S2 a0 5).bind fun r5 => grd (kin S2 r5 = some (0, 4)) <| (F_st_copyFrom N r5 a1 S2 w3).bind fun (S8, w9) => (gr S8 a0 5).bind fun r11 => grd (kin S8 r11 = some (0, 4)) <| (F_st_latestNumber N r11 (J 4) S8 w9).bind fun x14 => some ((x14, S8, w9))
theorem ok_gc_accept (N : Nat) (a0 : Nat) (a1 : Nat) (S : shp) (v : vl) : SimK B_gc_accept 0 (entB (bN B_gc_accept) [.ref a0, .ref a1]) [] S v (F_gc_accept N a0 a1 S v) (ρgi) := by
  show SimK B_gc_accept 0 [some (.ref a0), some (.ref a1)] [] S v (F_gc_accept N a0 a1 S v) _
  unfold F_gc_accept
  refine sim_seg [(.aload_n 0, 0, 0, 0)] [] (q := 1) (L' := [some (.ref a0), some (.ref a1)]) (st' := [.ref a0]) (v1 := v) (by decide +kernel) rfl trivial ?_
  refine sim_grd fun h1 => ?_
  refine sc_gv (pc3 := 4) (cf_V (idx := 299) (ci := 5) [] m_gc_acceptChange (by decide) ⟨by decide, by decide⟩ (List.mem_of_getElem? (i := 1004) (by decide +kernel)) rfl (Nat.le_of_ble_eq_true rfl) h1 (by decide +kernel) (Nat.le_of_ble_eq_true rfl) rfl) (ok_gc_acceptChange N a0 S v) rfl (fun S2 w3 h4 => ?_)
  refine sim_bind fun r5 h6 => ?_
  refine sim_seg [(.aload_n 0, 0, 0, 0), (.getfield 26, 5, 5, 0), (.aload_n 1, 0, 0, 0)] [r5] (q := 9) (L' := [some (.ref a0), some (.ref a1)]) (st' := [.ref a1, .ref r5]) (v1 := w3) (by decide +kernel) rfl ⟨⟨(h4.2.2.2.2 _ _ h1), h6⟩, trivial⟩ ?_
  refine sim_grd fun h7 => ?_
  refine sc_gv (pc3 := 12) (cf_V (idx := 58) (ci := 4) [.ref a1] m_st_copyFrom (by decide) ⟨by decide, by decide⟩ (List.mem_of_getElem? (i := 498) (by decide +kernel)) rfl (Nat.le_of_ble_eq_true rfl) h7 (by decide +kernel) (Nat.le_of_ble_eq_true rfl) rfl) (ok_st_copyFrom N r5 a1 S2 w3) rfl (fun S8 w9 h10 => ?_)
  refine sim_bind fun r11 h12 => ?_
  refine sim_seg [(.aload_n 0, 0, 0, 0), (.getfield 26, 5, 5, 0), (.iconst 4, 0, 0, 4)] [r11] (q := 17) (L' := [some (.ref a0), some (.ref a1)]) (st' := [.int (J 4), .ref r11]) (v1 := w9) (by decide +kernel) rfl ⟨⟨(h10.2.2.2.2 _ _ (h4.2.2.2.2 _ _ h1)), h12⟩, trivial⟩ ?_
  refine sim_grd fun h13 => ?_
  refine sc_ri (pc3 := 20) (cf_V (idx := 235) (ci := 4) [.int (J 4)] m_st_latestNumber (by decide) ⟨by decide, by decide⟩ (List.mem_of_getElem? (i := 1013) (by decide +kernel)) rfl (Nat.le_of_ble_eq_true rfl) h13 (by decide +kernel) (Nat.le_of_ble_eq_true rfl) rfl) (ok_st_latestNumber N r11 (J 4) S8 w9) rfl (fun x14 => ?_)
  exact sim_iret (by decide +kernel) rfl rfl rfl
def B_gc_fresh : bd := (⟨"GateCounter", "fresh", "(LGateCounter$State;)LGateCounter$State;"⟩, prog_1_method_70_code, 2, (some (.object "GateCounter$State")), [], 5, 4)
theorem m_gc_fresh : mV B_gc_fresh 5 1 := ⟨⟨⟨by decide +kernel, Or.inl rfl⟩, rfl, (List.mem_of_getElem? (i := 902) (by decide +kernel)), by decide +kernel, (List.mem_of_getElem? (i := 57) (by decide +kernel)), ⟨by decide, by decide⟩, by decide⟩, rfl, (by unfold nar; decide +kernel), (List.mem_of_getElem? (i := 901) (by decide +kernel)), rfl, (List.mem_of_getElem? (i := 27) (by decide +kernel))⟩
noncomputable def F_gc_fresh (N : Nat) (a0 : Nat) (a1 : Nat) (S : shp) (v : vl) : Option ((Option Nat) × shp × vl) :=
  grd (kin S a0 = some (0, 5)) <| (gr S a0 5).bind fun r2 => grd (kin S a1 = some (0, 4)) <| (F_st_copyFrom N a1 r2 S v).bind fun (S5, w6) => some (((some a1), S5, w6))
theorem ok_gc_fresh (N : Nat) (a0 : Nat) (a1 : Nat) (S : shp) (v : vl) : SimK B_gc_fresh 0 (entB (bN B_gc_fresh) [.ref a0, .ref a1]) [] S v (F_gc_fresh N a0 a1 S v) (ρgq) := by
  show SimK B_gc_fresh 0 [some (.ref a0), some (.ref a1)] [] S v (F_gc_fresh N a0 a1 S v) _
  unfold F_gc_fresh
  refine sim_grd fun h1 => ?_
  refine sim_bind fun r2 h3 => ?_
  refine sim_seg [(.aload_n 1, 0, 0, 0), (.aload_n 0, 0, 0, 0), (.getfield 26, 5, 5, 0)] [r2] (q := 5) (L' := [some (.ref a0), some (.ref a1)]) (st' := [.ref r2, .ref a1]) (v1 := v) (by decide +kernel) rfl ⟨⟨h1, h3⟩, trivial⟩ ?_
  refine sim_grd fun h4 => ?_
  refine sc_gv (pc3 := 8) (cf_V (idx := 58) (ci := 4) [.ref r2] m_st_copyFrom (by decide) ⟨by decide, by decide⟩ (List.mem_of_getElem? (i := 498) (by decide +kernel)) rfl (Nat.le_of_ble_eq_true rfl) h4 (by decide +kernel) (Nat.le_of_ble_eq_true rfl) rfl) (ok_st_copyFrom N a1 r2 S v) rfl (fun S5 w6 h7 => ?_)
  refine sim_seg [(.aload_n 1, 0, 0, 0)] [] (q := 9) (L' := [some (.ref a0), some (.ref a1)]) (st' := [.ref a1]) (v1 := w6) (by decide +kernel) rfl trivial ?_
  exact sim_aretS (by decide +kernel) rfl (Or.inl ⟨_, rfl⟩) rfl
def B_gc_refuse : bd := (⟨"GateCounter", "refuse", "(II)I"⟩, prog_1_method_74_code, 3, (some .int), [], 5, 0)
theorem m_gc_refuse : mV B_gc_refuse 5 2 := ⟨⟨⟨by decide +kernel, Or.inl rfl⟩, rfl, (List.mem_of_getElem? (i := 1032) (by decide +kernel)), by decide +kernel, (List.mem_of_getElem? (i := 57) (by decide +kernel)), ⟨by decide, by decide⟩, by decide⟩, rfl, (by unfold nar; decide +kernel), (List.mem_of_getElem? (i := 1031) (by decide +kernel)), rfl, (List.mem_of_getElem? (i := 37) (by decide +kernel))⟩
noncomputable def F_gc_refuse (a0 : Nat) (b1 : Int32) (b2 : Int32) (S : shp) (v : vl) : Option (Int32 × vl) :=
  grd (kin S a0 = some (0, 5)) <| lt (si (si v a0 2 b1) a0 3 b2) fun w2 => some (((J (-1)), w2))
theorem ok_gc_refuse (a0 : Nat) (b1 : Int32) (b2 : Int32) (S : shp) (v : vl) : SimK B_gc_refuse 0 (entB (bN B_gc_refuse) [.ref a0, .int b1, .int b2]) [] S v (F_gc_refuse a0 b1 b2 S v) (ρpi S) := by
  show SimK B_gc_refuse 0 [some (.ref a0), some (.int b1), some (.int b2)] [] S v (F_gc_refuse a0 b1 b2 S v) _
  unfold F_gc_refuse
  refine sim_grd fun h1 => ?_
  refine sim_seg [(.aload_n 0, 0, 0, 0), (.iload_n 1, 0, 0, 0), (.putfield 180, 5, 2, 0), (.aload_n 0, 0, 0, 0), (.iload_n 2, 0, 0, 0), (.putfield 183, 5, 3, 0), (.iconst (-1), 0, 0, (-1))] [] (q := 11) (L' := [some (.ref a0), some (.int b1), some (.int b2)]) (st' := [.int (J (-1))]) (v1 := (si (si v a0 2 b1) a0 3 b2)) (by decide +kernel) rfl ⟨h1, h1, trivial⟩ ?_
  refine sim_lt (x := (si (si v a0 2 b1) a0 3 b2)) ?_
  generalize (si (si v a0 2 b1) a0 3 b2) = w2
  exact sim_iret (by decide +kernel) rfl rfl rfl
def B_ck_move : bd := (⟨"GateCounter$Clock", "move", "(I)V"⟩, prog_2_method_6_code, 3, none, [], 0, 1)
theorem m_ck_move : mV B_ck_move 0 1 := ⟨⟨⟨by decide +kernel, Or.inl rfl⟩, rfl, (List.mem_of_getElem? (i := 924) (by decide +kernel)), by decide +kernel, (List.mem_of_getElem? (i := 60) (by decide +kernel)), ⟨by decide, by decide⟩, by decide⟩, rfl, (by unfold nar; decide +kernel), (List.mem_of_getElem? (i := 923) (by decide +kernel)), rfl, (List.mem_of_getElem? (i := 28) (by decide +kernel))⟩
noncomputable def F_ck_move (a0 : Nat) (b1 : Int32) (S : shp) (v : vl) : Option vl :=
  grd (kin S a0 = some (0, 0)) <| lt ((gi v a0 3) + (b1 * (gi v a0 1))) fun x2 => (F_ma_floorDiv x2 (J 1000) S v).bind fun x3 => lt (si v a0 4 ((gi v a0 4) + ((b1 * (gi v a0 0)) + x3))) fun w4 => (F_ma_floorMod x2 (J 1000) S w4).bind fun x5 => lt (si w4 a0 3 x5) fun w6 => some (w6)
theorem ok_ck_move (a0 : Nat) (b1 : Int32) (S : shp) (v : vl) : SimK B_ck_move 0 (entB (bN B_ck_move) [.ref a0, .int b1]) [] S v (F_ck_move a0 b1 S v) (ρpv S) := by
  show SimK B_ck_move 0 [some (.ref a0), some (.int b1), none] [] S v (F_ck_move a0 b1 S v) _
  unfold F_ck_move
  refine sim_grd fun h1 => ?_
  refine sim_seg [(.aload_n 0, 0, 0, 0), (.getfield 21, 0, 3, 0), (.iload_n 1, 0, 0, 0), (.aload_n 0, 0, 0, 0), (.getfield 15, 0, 1, 0), (.imul, 0, 0, 0), (.iadd, 0, 0, 0), (.istore_n 2, 0, 0, 0)] [] (q := 12) (L' := [some (.ref a0), some (.int b1), some (.int ((gi v a0 3) + (b1 * (gi v a0 1))))]) (st' := []) (v1 := v) (by decide +kernel) rfl ⟨h1, h1, trivial⟩ ?_
  refine sim_nm ((gi v a0 3) + (b1 * (gi v a0 1))) (fun x2 => [some (.ref a0), some (.int b1), some (.int x2)]) (fun x2 => []) (fun x2 => ?_) rfl rfl
  refine sim_seg [(.aload_n 0, 0, 0, 0), (.dup, 0, 0, 0), (.getfield 24, 0, 4, 0), (.iload_n 1, 0, 0, 0), (.aload_n 0, 0, 0, 0), (.getfield 11, 0, 0, 0), (.imul, 0, 0, 0), (.iload_n 2, 0, 0, 0), (.sipush 1000, 0, 0, 1000)] [] (q := 27) (L' := [some (.ref a0), some (.int b1), some (.int x2)]) (st' := [.int (J 1000), .int x2, .int (b1 * (gi v a0 0)), .int (gi v a0 4), .ref a0]) (v1 := v) (by decide +kernel) rfl ⟨h1, h1, trivial⟩ ?_
  refine sc_ri (pc3 := 30) (cf_S (idx := 41) [.int x2, .int (J 1000)] m_ma_floorDiv ⟨by decide, by decide⟩ (List.mem_of_getElem? (i := 925) (by decide +kernel)) rfl (Nat.le_of_ble_eq_true rfl) (by decide +kernel) (Nat.le_of_ble_eq_true rfl) rfl) (ok_ma_floorDiv x2 (J 1000) S v) rfl (fun x3 => ?_)
  refine sim_seg [(.iadd, 0, 0, 0), (.iadd, 0, 0, 0), (.putfield 24, 0, 4, 0), (.aload_n 0, 0, 0, 0), (.iload_n 2, 0, 0, 0), (.sipush 1000, 0, 0, 1000)] [] (q := 40) (L' := [some (.ref a0), some (.int b1), some (.int x2)]) (st' := [.int (J 1000), .int x2, .ref a0]) (v1 := (si v a0 4 ((gi v a0 4) + ((b1 * (gi v a0 0)) + x3)))) (by decide +kernel) rfl ⟨h1, trivial⟩ ?_
  refine sim_lt (x := (si v a0 4 ((gi v a0 4) + ((b1 * (gi v a0 0)) + x3)))) ?_
  generalize (si v a0 4 ((gi v a0 4) + ((b1 * (gi v a0 0)) + x3))) = w4
  refine sc_ri (pc3 := 43) (cf_S (idx := 47) [.int x2, .int (J 1000)] m_ma_floorMod ⟨by decide, by decide⟩ (List.mem_of_getElem? (i := 928) (by decide +kernel)) rfl (Nat.le_of_ble_eq_true rfl) (by decide +kernel) (Nat.le_of_ble_eq_true rfl) rfl) (ok_ma_floorMod x2 (J 1000) S w4) rfl (fun x5 => ?_)
  refine sim_seg [(.putfield 21, 0, 3, 0)] [] (q := 46) (L' := [some (.ref a0), some (.int b1), some (.int x2)]) (st' := []) (v1 := (si w4 a0 3 x5)) (by decide +kernel) rfl ⟨h1, trivial⟩ ?_
  refine sim_lt (x := (si w4 a0 3 x5)) ?_
  generalize (si w4 a0 3 x5) = w6
  exact sim_vret (by decide +kernel) rfl rfl
def B_ck_leap : bd := (⟨"GateCounter$Clock", "leap", "()V"⟩, prog_2_method_9_code, 1, none, [], 0, 2)
theorem m_ck_leap : mV B_ck_leap 0 0 := ⟨⟨⟨by decide +kernel, Or.inl rfl⟩, rfl, (List.mem_of_getElem? (i := 957) (by decide +kernel)), by decide +kernel, (List.mem_of_getElem? (i := 60) (by decide +kernel)), ⟨by decide, by decide⟩, by decide⟩, rfl, (by unfold nar; decide +kernel), (List.mem_of_getElem? (i := 956) (by decide +kernel)), rfl, (List.mem_of_getElem? (i := 32) (by decide +kernel))⟩
noncomputable def F_ck_leap (a0 : Nat) (S : shp) (v : vl) : Option vl :=
  grd (kin S a0 = some (0, 0)) <| (F_ck_move a0 (J 99) S v).bind fun w2 => lt (si w2 a0 5 ((gi w2 a0 5) + (J 99))) fun w3 => some (w3)
theorem ok_ck_leap (a0 : Nat) (S : shp) (v : vl) : SimK B_ck_leap 0 (entB (bN B_ck_leap) [.ref a0]) [] S v (F_ck_leap a0 S v) (ρpv S) := by
  show SimK B_ck_leap 0 [some (.ref a0)] [] S v (F_ck_leap a0 S v) _
  unfold F_ck_leap
  refine sim_seg [(.aload_n 0, 0, 0, 0), (.bipush 99, 0, 0, 99)] [] (q := 3) (L' := [some (.ref a0)]) (st' := [.int (J 99), .ref a0]) (v1 := v) (by decide +kernel) rfl trivial ?_
  refine sim_grd fun h1 => ?_
  refine sc_pv (pc3 := 6) (cf_V (idx := 37) (ci := 0) [.int (J 99)] m_ck_move (by decide) ⟨by decide, by decide⟩ (List.mem_of_getElem? (i := 921) (by decide +kernel)) rfl (Nat.le_of_ble_eq_true rfl) h1 (by decide +kernel) (Nat.le_of_ble_eq_true rfl) rfl) (ok_ck_move a0 (J 99) S v) rfl (fun w2 => ?_)
  refine sim_seg [(.aload_n 0, 0, 0, 0), (.dup, 0, 0, 0), (.getfield 27, 0, 5, 0), (.bipush 99, 0, 0, 99), (.iadd, 0, 0, 0), (.putfield 27, 0, 5, 0)] [] (q := 17) (L' := [some (.ref a0)]) (st' := []) (v1 := (si w2 a0 5 ((gi w2 a0 5) + (J 99)))) (by decide +kernel) rfl ⟨h1, h1, trivial⟩ ?_
  refine sim_lt (x := (si w2 a0 5 ((gi w2 a0 5) + (J 99)))) ?_
  generalize (si w2 a0 5 ((gi w2 a0 5) + (J 99))) = w3
  exact sim_vret (by decide +kernel) rfl rfl
def B_gc_withinOff : bd := (⟨"GateCounter", "withinOff", "(I)I"⟩, prog_1_method_77_code, 1, (some .int), [], 5, 1)
theorem m_gc_withinOff : mS B_gc_withinOff 1 := ⟨⟨⟨by decide +kernel, Or.inl rfl⟩, rfl, (List.mem_of_getElem? (i := 918) (by decide +kernel)), by decide +kernel, (List.mem_of_getElem? (i := 57) (by decide +kernel)), ⟨by decide, by decide⟩, by decide⟩, rfl, (by unfold nar; decide +kernel), (List.mem_of_getElem? (i := 917) (by decide +kernel))⟩
noncomputable def F_gc_withinOff (b0 : Int32) (S : shp) (v : vl) : Option Int32 :=
  (F_ma_min (J 99) b0 S v).bind fun x1 => (F_ma_max (J (-99)) x1 S v).bind fun x2 => some (x2)
theorem ok_gc_withinOff (b0 : Int32) (S : shp) (v : vl) : SimK B_gc_withinOff 0 (entB (bN B_gc_withinOff) [.int b0]) [] S v (F_gc_withinOff b0 S v) (ρri S v) := by
  show SimK B_gc_withinOff 0 [some (.int b0)] [] S v (F_gc_withinOff b0 S v) _
  unfold F_gc_withinOff
  refine sim_seg [(.bipush (-99), 0, 0, (-99)), (.bipush 99, 0, 0, 99), (.iload_n 0, 0, 0, 0)] [] (q := 5) (L' := [some (.int b0)]) (st' := [.int b0, .int (J 99), .int (J (-99))]) (v1 := v) (by decide +kernel) rfl trivial ?_
  refine sc_ri (pc3 := 8) (cf_S (idx := 220) [.int (J 99), .int b0] m_ma_min ⟨by decide, by decide⟩ (List.mem_of_getElem? (i := 919) (by decide +kernel)) rfl (Nat.le_of_ble_eq_true rfl) (by decide +kernel) (Nat.le_of_ble_eq_true rfl) rfl) (ok_ma_min (J 99) b0 S v) rfl (fun x1 => ?_)
  refine sc_ri (pc3 := 11) (cf_S (idx := 226) [.int (J (-99)), .int x1] m_ma_max ⟨by decide, by decide⟩ (List.mem_of_getElem? (i := 920) (by decide +kernel)) rfl (Nat.le_of_ble_eq_true rfl) (by decide +kernel) (Nat.le_of_ble_eq_true rfl) rfl) (ok_ma_max (J (-99)) x1 S v) rfl (fun x2 => ?_)
  exact sim_iret (by decide +kernel) rfl rfl rfl
def B_ck_tick : bd := (⟨"GateCounter$Clock", "tick", "()V"⟩, prog_2_method_5_code, 1, none, [], 0, 2)
theorem m_ck_tick : mV B_ck_tick 0 0 := ⟨⟨⟨by decide +kernel, Or.inl rfl⟩, rfl, (List.mem_of_getElem? (i := 915) (by decide +kernel)), by decide +kernel, (List.mem_of_getElem? (i := 60) (by decide +kernel)), ⟨by decide, by decide⟩, by decide⟩, rfl, (by unfold nar; decide +kernel), (List.mem_of_getElem? (i := 913) (by decide +kernel)), rfl, (List.mem_of_getElem? (i := 914) (by decide +kernel))⟩
noncomputable def F_ck_tick (a0 : Nat) (S : shp) (v : vl) : Option vl :=
  grd (kin S a0 = some (0, 0)) <| lt (si v a0 5 ((gi v a0 5) + (J 1))) fun w2 => lt (si w2 a0 6 (gi w2 a0 4)) fun w3 => (if ((gi w3 a0 5) - (gi w3 a0 5) / (J 100) * (J 100)) = (J 0) then (F_gc_withinOff ((gi w3 a0 1) + (gi w3 a0 2)) S w3).bind fun x4 => lt (si w3 a0 1 x4) fun w5 => (F_ck_move a0 (J 1) S w5).bind fun w6 => some (w6) else (F_ck_move a0 (J 1) S w3).bind fun w7 => some (w7))
theorem ok_ck_tick (a0 : Nat) (S : shp) (v : vl) : SimK B_ck_tick 0 (entB (bN B_ck_tick) [.ref a0]) [] S v (F_ck_tick a0 S v) (ρpv S) := by
  show SimK B_ck_tick 0 [some (.ref a0)] [] S v (F_ck_tick a0 S v) _
  unfold F_ck_tick
  refine sim_grd fun h1 => ?_
  refine sim_seg [(.aload_n 0, 0, 0, 0), (.dup, 0, 0, 0), (.getfield 27, 0, 5, 0), (.iconst 1, 0, 0, 1), (.iadd, 0, 0, 0), (.putfield 27, 0, 5, 0), (.aload_n 0, 0, 0, 0), (.aload_n 0, 0, 0, 0)] [] (q := 12) (L' := [some (.ref a0)]) (st' := [.ref a0, .ref a0]) (v1 := (si v a0 5 ((gi v a0 5) + (J 1)))) (by decide +kernel) rfl ⟨h1, h1, trivial⟩ ?_
  refine sim_lt (x := (si v a0 5 ((gi v a0 5) + (J 1)))) ?_
  generalize (si v a0 5 ((gi v a0 5) + (J 1))) = w2
  refine sim_seg [(.getfield 24, 0, 4, 0), (.putfield 30, 0, 6, 0), (.aload_n 0, 0, 0, 0)] [] (q := 19) (L' := [some (.ref a0)]) (st' := [.ref a0]) (v1 := (si w2 a0 6 (gi w2 a0 4))) (by decide +kernel) rfl ⟨h1, h1, trivial⟩ ?_
  refine sim_lt (x := (si w2 a0 6 (gi w2 a0 4))) ?_
  generalize (si w2 a0 6 (gi w2 a0 4)) = w3
  refine sim_seg [(.getfield 27, 0, 5, 0), (.bipush 100, 0, 0, 100), (.irem, 0, 0, 0)] [] (q := 25) (L' := [some (.ref a0)]) (st' := [.int ((gi w3 a0 5) - (gi w3 a0 5) / (J 100) * (J 100))]) (v1 := w3) (by decide +kernel) rfl ⟨h1, (by decide), trivial⟩ ?_
  refine sim_ne0 (o := 19) (tg := 44) (f := 28) (by decide +kernel) rfl rfl (fun _ => ?_) (fun _ => ?_)
  · refine sim_seg [(.aload_n 0, 0, 0, 0), (.aload_n 0, 0, 0, 0), (.getfield 15, 0, 1, 0), (.aload_n 0, 0, 0, 0), (.getfield 18, 0, 2, 0), (.iadd, 0, 0, 0)] [] (q := 38) (L' := [some (.ref a0)]) (st' := [.int ((gi w3 a0 1) + (gi w3 a0 2)), .ref a0]) (v1 := w3) (by decide +kernel) rfl ⟨h1, h1, trivial⟩ ?_
    refine sc_ri (pc3 := 41) (cf_SN (idx := 33) (host := "GateCounter") [.int ((gi w3 a0 1) + (gi w3 a0 2))] m_gc_withinOff ⟨by decide, by decide⟩ (by decide +kernel) rfl (Nat.le_of_ble_eq_true rfl) (by decide +kernel) (Nat.le_of_ble_eq_true rfl) rfl) (ok_gc_withinOff ((gi w3 a0 1) + (gi w3 a0 2)) S w3) rfl (fun x4 => ?_)
    refine sim_seg [(.putfield 15, 0, 1, 0), (.aload_n 0, 0, 0, 0), (.iconst 1, 0, 0, 1)] [] (q := 46) (L' := [some (.ref a0)]) (st' := [.int (J 1), .ref a0]) (v1 := (si w3 a0 1 x4)) (by decide +kernel) rfl ⟨h1, trivial⟩ ?_
    refine sim_lt (x := (si w3 a0 1 x4)) ?_
    generalize (si w3 a0 1 x4) = w5
    refine sc_pv (pc3 := 49) (cf_V (idx := 37) (ci := 0) [.int (J 1)] m_ck_move (by decide) ⟨by decide, by decide⟩ (List.mem_of_getElem? (i := 921) (by decide +kernel)) rfl (Nat.le_of_ble_eq_true rfl) h1 (by decide +kernel) (Nat.le_of_ble_eq_true rfl) rfl) (ok_ck_move a0 (J 1) S w5) rfl (fun w6 => ?_)
    exact sim_vret (by decide +kernel) rfl rfl
  · refine sim_seg [(.aload_n 0, 0, 0, 0), (.iconst 1, 0, 0, 1)] [] (q := 46) (L' := [some (.ref a0)]) (st' := [.int (J 1), .ref a0]) (v1 := w3) (by decide +kernel) rfl trivial ?_
    refine sc_pv (pc3 := 49) (cf_V (idx := 37) (ci := 0) [.int (J 1)] m_ck_move (by decide) ⟨by decide, by decide⟩ (List.mem_of_getElem? (i := 921) (by decide +kernel)) rfl (Nat.le_of_ble_eq_true rfl) h1 (by decide +kernel) (Nat.le_of_ble_eq_true rfl) rfl) (ok_ck_move a0 (J 1) S w3) rfl (fun w7 => ?_)
    exact sim_vret (by decide +kernel) rfl rfl
def B_ck_passEdges : bd := (⟨"GateCounter$Clock", "passEdges", "(I)V"⟩, prog_2_method_7_code, 3, none, [], 0, 3)
theorem m_ck_passEdges : mV B_ck_passEdges 0 1 := ⟨⟨⟨by decide +kernel, Or.inl rfl⟩, rfl, (List.mem_of_getElem? (i := 953) (by decide +kernel)), by decide +kernel, (List.mem_of_getElem? (i := 60) (by decide +kernel)), ⟨by decide, by decide⟩, by decide⟩, rfl, (by unfold nar; decide +kernel), (List.mem_of_getElem? (i := 951) (by decide +kernel)), rfl, (List.mem_of_getElem? (i := 952) (by decide +kernel))⟩
noncomputable def Y_ck_passEdges_2 (N : Nat)  (i2 : vl → Nat → Int32 → Option vl) (S : shp) (v : vl) (p0 : Nat) (p2 : Int32) : Option vl :=
  (if (J 0) < p2 then grd (kin S p0 = some (0, 0)) <| (if ((gi v p0 5) - (gi v p0 5) / (J 100) * (J 100)) = (J 0) then (if p2 < (J 100) then (F_ck_tick p0 S v).bind fun w2 => i2 w2 p0 (p2 + (J (-1))) else (F_ck_leap p0 S v).bind fun w3 => (F_ck_tick p0 S w3).bind fun w4 => i2 w4 p0 ((p2 + (J (-99))) + (J (-1)))) else (F_ck_tick p0 S v).bind fun w5 => i2 w5 p0 (p2 + (J (-1)))) else some (v))
noncomputable def K_ck_passEdges_2 (N : Nat)  (n : Nat) (S : shp) : vl → Nat → Int32 → Option vl :=
  Nat.rec (motive := fun _ => vl → Nat → Int32 → Option vl) (fun _ _ _ => none) (fun _ i => Y_ck_passEdges_2 N  i S) n
theorem sY_ck_passEdges_2 (N : Nat)  (i2 : vl → Nat → Int32 → Option vl) (S : shp)  (j2 : ∀ (v : vl) (p0 : Nat) (p2 : Int32), SimK B_ck_passEdges 2 [some (.ref p0), none, some (.int p2)] [] S v (i2 v p0 p2) (ρpv S)) (v : vl) (p0 : Nat) (p2 : Int32) : SimK B_ck_passEdges 2 [some (.ref p0), none, some (.int p2)] [] S v (Y_ck_passEdges_2 N  i2 S v p0 p2) (ρpv S) := by
  unfold Y_ck_passEdges_2
  refine sim_seg [(.iload_n 2, 0, 0, 0)] [] (q := 3) (L' := [some (.ref p0), none, some (.int p2)]) (st' := [.int p2]) (v1 := v) (by decide +kernel) rfl trivial ?_
  refine sim_le0 (o := 36) (tg := 39) (f := 6) (by decide +kernel) rfl rfl (fun _ => ?_) (fun _ => ?_)
  · refine sim_grd fun h1 => ?_
    refine sim_seg [(.aload_n 0, 0, 0, 0), (.getfield 27, 0, 5, 0), (.bipush 100, 0, 0, 100), (.irem, 0, 0, 0)] [] (q := 13) (L' := [some (.ref p0), none, some (.int p2)]) (st' := [.int ((gi v p0 5) - (gi v p0 5) / (J 100) * (J 100))]) (v1 := v) (by decide +kernel) rfl ⟨h1, (by decide), trivial⟩ ?_
    refine sim_ne0 (o := 16) (tg := 29) (f := 16) (by decide +kernel) rfl rfl (fun _ => ?_) (fun _ => ?_)
    · refine sim_seg [(.iload_n 2, 0, 0, 0), (.bipush 100, 0, 0, 100)] [] (q := 19) (L' := [some (.ref p0), none, some (.int p2)]) (st' := [.int (J 100), .int p2]) (v1 := v) (by decide +kernel) rfl trivial ?_
      refine sim_lt' (o := 10) (tg := 29) (f := 22) (by decide +kernel) rfl rfl (fun _ => ?_) (fun _ => ?_)
      · refine sim_seg [(.aload_n 0, 0, 0, 0)] [] (q := 30) (L' := [some (.ref p0), none, some (.int p2)]) (st' := [.ref p0]) (v1 := v) (by decide +kernel) rfl trivial ?_
        refine sc_pv (pc3 := 33) (cf_V (idx := 53) (ci := 0) [] m_ck_tick (by decide) ⟨by decide, by decide⟩ (List.mem_of_getElem? (i := 958) (by decide +kernel)) rfl (Nat.le_of_ble_eq_true rfl) h1 (by decide +kernel) (Nat.le_of_ble_eq_true rfl) rfl) (ok_ck_tick p0 S v) rfl (fun w2 => ?_)
        refine sim_seg [(.iinc 2 (-1), 0, 0, (-1))] [] (q := 36) (L' := [some (.ref p0), none, some (.int (p2 + (J (-1))))]) (st' := []) (v1 := w2) (by decide +kernel) rfl trivial ?_
        refine sim_seg [(.goto (-34), 0, 0, 0)] [] (q := 2) (L' := [some (.ref p0), none, some (.int (p2 + (J (-1))))]) (st' := []) (v1 := w2) (by decide +kernel) rfl trivial ?_
        exact j2 w2 p0 (p2 + (J (-1)))
      · refine sim_seg [(.aload_n 0, 0, 0, 0)] [] (q := 23) (L' := [some (.ref p0), none, some (.int p2)]) (st' := [.ref p0]) (v1 := v) (by decide +kernel) rfl trivial ?_
        refine sc_pv (pc3 := 26) (cf_V (idx := 50) (ci := 0) [] m_ck_leap (by decide) ⟨by decide, by decide⟩ (List.mem_of_getElem? (i := 954) (by decide +kernel)) rfl (Nat.le_of_ble_eq_true rfl) h1 (by decide +kernel) (Nat.le_of_ble_eq_true rfl) rfl) (ok_ck_leap p0 S v) rfl (fun w3 => ?_)
        refine sim_seg [(.iinc 2 (-99), 0, 0, (-99))] [] (q := 29) (L' := [some (.ref p0), none, some (.int (p2 + (J (-99))))]) (st' := []) (v1 := w3) (by decide +kernel) rfl trivial ?_
        refine sim_seg [(.aload_n 0, 0, 0, 0)] [] (q := 30) (L' := [some (.ref p0), none, some (.int (p2 + (J (-99))))]) (st' := [.ref p0]) (v1 := w3) (by decide +kernel) rfl trivial ?_
        refine sc_pv (pc3 := 33) (cf_V (idx := 53) (ci := 0) [] m_ck_tick (by decide) ⟨by decide, by decide⟩ (List.mem_of_getElem? (i := 958) (by decide +kernel)) rfl (Nat.le_of_ble_eq_true rfl) h1 (by decide +kernel) (Nat.le_of_ble_eq_true rfl) rfl) (ok_ck_tick p0 S w3) rfl (fun w4 => ?_)
        refine sim_seg [(.iinc 2 (-1), 0, 0, (-1))] [] (q := 36) (L' := [some (.ref p0), none, some (.int ((p2 + (J (-99))) + (J (-1))))]) (st' := []) (v1 := w4) (by decide +kernel) rfl trivial ?_
        refine sim_seg [(.goto (-34), 0, 0, 0)] [] (q := 2) (L' := [some (.ref p0), none, some (.int ((p2 + (J (-99))) + (J (-1))))]) (st' := []) (v1 := w4) (by decide +kernel) rfl trivial ?_
        exact j2 w4 p0 ((p2 + (J (-99))) + (J (-1)))
    · refine sim_seg [(.aload_n 0, 0, 0, 0)] [] (q := 30) (L' := [some (.ref p0), none, some (.int p2)]) (st' := [.ref p0]) (v1 := v) (by decide +kernel) rfl trivial ?_
      refine sc_pv (pc3 := 33) (cf_V (idx := 53) (ci := 0) [] m_ck_tick (by decide) ⟨by decide, by decide⟩ (List.mem_of_getElem? (i := 958) (by decide +kernel)) rfl (Nat.le_of_ble_eq_true rfl) h1 (by decide +kernel) (Nat.le_of_ble_eq_true rfl) rfl) (ok_ck_tick p0 S v) rfl (fun w5 => ?_)
      refine sim_seg [(.iinc 2 (-1), 0, 0, (-1))] [] (q := 36) (L' := [some (.ref p0), none, some (.int (p2 + (J (-1))))]) (st' := []) (v1 := w5) (by decide +kernel) rfl trivial ?_
      refine sim_seg [(.goto (-34), 0, 0, 0)] [] (q := 2) (L' := [some (.ref p0), none, some (.int (p2 + (J (-1))))]) (st' := []) (v1 := w5) (by decide +kernel) rfl trivial ?_
      exact j2 w5 p0 (p2 + (J (-1)))
  · exact sim_vret (by decide +kernel) rfl rfl
theorem sR_ck_passEdges_2 (N : Nat)  (S : shp)  (n : Nat) : ∀ (v : vl) (p0 : Nat) (p2 : Int32), SimK B_ck_passEdges 2 [some (.ref p0), none, some (.int p2)] [] S v (K_ck_passEdges_2 N  n S v p0 p2) (ρpv S) := by
  induction n with
  | zero => intro v p0 p2; exact sim_none
  | succ k ih => intro v p0 p2; exact sY_ck_passEdges_2 N   _ S  ih v p0 p2
theorem sK_ck_passEdges_2 (N : Nat)  (n : Nat) (S : shp) (v : vl) (p0 : Nat) (p2 : Int32) : SimK B_ck_passEdges 2 [some (.ref p0), none, some (.int p2)] [] S v (K_ck_passEdges_2 N  n S v p0 p2) (ρpv S) := sR_ck_passEdges_2 N   S  n  v p0 p2
noncomputable def F_ck_passEdges (N : Nat) (a0 : Nat) (b1 : Int32) (S : shp) (v : vl) : Option vl :=
  K_ck_passEdges_2 N  N S v a0 b1
theorem ok_ck_passEdges (N : Nat) (a0 : Nat) (b1 : Int32) (S : shp) (v : vl) : SimK B_ck_passEdges 0 (entB (bN B_ck_passEdges) [.ref a0, .int b1]) [] S v (F_ck_passEdges N a0 b1 S v) (ρpv S) := by
  show SimK B_ck_passEdges 0 [some (.ref a0), some (.int b1), none] [] S v (F_ck_passEdges N a0 b1 S v) _
  unfold F_ck_passEdges
  refine sim_seg [(.iload_n 1, 0, 0, 0), (.istore_n 2, 0, 0, 0)] [] (q := 2) (L' := [some (.ref a0), some (.int b1), some (.int b1)]) (st' := []) (v1 := v) (by decide +kernel) rfl trivial ?_
  exact sim_wk (L0 := [some (.ref a0), none, some (.int b1)]) ⟨rfl, rfl, trivial⟩ (sK_ck_passEdges_2 N N S v a0 b1)
def B_ms_init : bd := (⟨"GateCounter$Measurement", "<init>", "(ZIIIIII)V"⟩, prog_3_method_1_code, 8, none, [], 1, 1)
theorem m_ms_init : mI B_ms_init 7 := ⟨⟨⟨by decide +kernel, Or.inl rfl⟩, rfl, (List.mem_of_getElem? (i := 967) (by decide +kernel)), by decide +kernel, (List.mem_of_getElem? (i := 66) (by decide +kernel)), ⟨by decide, by decide⟩, by decide⟩, rfl, rfl, (by unfold nar; decide +kernel), (List.mem_of_getElem? (i := 966) (by decide +kernel)), rfl⟩
noncomputable def F_ms_init (a0 : Nat) (b1 : Int32) (b2 : Int32) (b3 : Int32) (b4 : Int32) (b5 : Int32) (b6 : Int32) (b7 : Int32) (S : shp) (v : vl) : Option vl :=
  grd (kin S a0 = some (0, 1)) <| grd (narrow (fty 1 0) (.int b1) = .int b1 ∧ fits (fty 1 0) (.int b1) = true) <| lt (si v a0 0 b1) fun w2 => lt (si w2 a0 1 b2) fun w4 => lt (si w4 a0 2 b3) fun w5 => lt (si w5 a0 3 b4) fun w6 => lt (si w6 a0 4 b5) fun w7 => lt (si w7 a0 5 b6) fun w8 => lt (si w8 a0 6 b7) fun w9 => some (w9)
theorem ok_ms_init (a0 : Nat) (b1 : Int32) (b2 : Int32) (b3 : Int32) (b4 : Int32) (b5 : Int32) (b6 : Int32) (b7 : Int32) (S : shp) (v : vl) : SimK B_ms_init 0 (entB (bN B_ms_init) [.ref a0, .int b1, .int b2, .int b3, .int b4, .int b5, .int b6, .int b7]) [] S v (F_ms_init a0 b1 b2 b3 b4 b5 b6 b7 S v) (ρpv S) := by
  show SimK B_ms_init 0 [some (.ref a0), some (.int b1), some (.int b2), some (.int b3), some (.int b4), some (.int b5), some (.int b6), some (.int b7)] [] S v (F_ms_init a0 b1 b2 b3 b4 b5 b6 b7 S v) _
  unfold F_ms_init
  refine sim_seg [(.aload_n 0, 0, 0, 0)] [] (q := 1) (L' := [some (.ref a0), some (.int b1), some (.int b2), some (.int b3), some (.int b4), some (.int b5), some (.int b6), some (.int b7)]) (st' := [.ref a0]) (v1 := v) (by decide +kernel) rfl trivial ?_
  refine sim_oinit (idx := 3) (pc3 := 4) (by decide +kernel) (List.mem_of_getElem? (i := 968) (by decide +kernel)) (by decide) (Nat.le_of_ble_eq_true rfl) rfl ?_
  refine sim_seg [(.aload_n 0, 0, 0, 0), (.iload_n 1, 0, 0, 0)] [] (q := 6) (L' := [some (.ref a0), some (.int b1), some (.int b2), some (.int b3), some (.int b4), some (.int b5), some (.int b6), some (.int b7)]) (st' := [.int b1, .ref a0]) (v1 := v) (by decide +kernel) rfl trivial ?_
  refine sim_grd fun h1 => ?_
  refine sim_grd fun h3 => ?_
  refine sim_puti (idx := 9) (ci := 1) (m := 0) (pc3 := 9) (by decide +kernel) (by decide) (Or.inr ⟨rfl, rfl⟩) h1 rfl rfl h3 rfl (fun w2 => ?_)
  refine sim_seg [(.aload_n 0, 0, 0, 0), (.iload_n 2, 0, 0, 0)] [] (q := 11) (L' := [some (.ref a0), some (.int b1), some (.int b2), some (.int b3), some (.int b4), some (.int b5), some (.int b6), some (.int b7)]) (st' := [.int b2, .ref a0]) (v1 := w2) (by decide +kernel) rfl trivial ?_
  refine sim_puti (idx := 15) (ci := 1) (m := 1) (pc3 := 14) (by decide +kernel) (by decide) (Or.inr ⟨rfl, rfl⟩) h1 rfl rfl ⟨rfl, rfl⟩ rfl (fun w4 => ?_)
  refine sim_seg [(.aload_n 0, 0, 0, 0), (.iload_n 3, 0, 0, 0)] [] (q := 16) (L' := [some (.ref a0), some (.int b1), some (.int b2), some (.int b3), some (.int b4), some (.int b5), some (.int b6), some (.int b7)]) (st' := [.int b3, .ref a0]) (v1 := w4) (by decide +kernel) rfl trivial ?_
  refine sim_puti (idx := 19) (ci := 1) (m := 2) (pc3 := 19) (by decide +kernel) (by decide) (Or.inr ⟨rfl, rfl⟩) h1 rfl rfl ⟨rfl, rfl⟩ rfl (fun w5 => ?_)
  refine sim_seg [(.aload_n 0, 0, 0, 0), (.iload 4, 0, 0, 0)] [] (q := 22) (L' := [some (.ref a0), some (.int b1), some (.int b2), some (.int b3), some (.int b4), some (.int b5), some (.int b6), some (.int b7)]) (st' := [.int b4, .ref a0]) (v1 := w5) (by decide +kernel) rfl trivial ?_
  refine sim_puti (idx := 22) (ci := 1) (m := 3) (pc3 := 25) (by decide +kernel) (by decide) (Or.inr ⟨rfl, rfl⟩) h1 rfl rfl ⟨rfl, rfl⟩ rfl (fun w6 => ?_)
  refine sim_seg [(.aload_n 0, 0, 0, 0), (.iload 5, 0, 0, 0)] [] (q := 28) (L' := [some (.ref a0), some (.int b1), some (.int b2), some (.int b3), some (.int b4), some (.int b5), some (.int b6), some (.int b7)]) (st' := [.int b5, .ref a0]) (v1 := w6) (by decide +kernel) rfl trivial ?_
  refine sim_puti (idx := 25) (ci := 1) (m := 4) (pc3 := 31) (by decide +kernel) (by decide) (Or.inr ⟨rfl, rfl⟩) h1 rfl rfl ⟨rfl, rfl⟩ rfl (fun w7 => ?_)
  refine sim_seg [(.aload_n 0, 0, 0, 0), (.iload 6, 0, 0, 0)] [] (q := 34) (L' := [some (.ref a0), some (.int b1), some (.int b2), some (.int b3), some (.int b4), some (.int b5), some (.int b6), some (.int b7)]) (st' := [.int b6, .ref a0]) (v1 := w7) (by decide +kernel) rfl trivial ?_
  refine sim_puti (idx := 28) (ci := 1) (m := 5) (pc3 := 37) (by decide +kernel) (by decide) (Or.inr ⟨rfl, rfl⟩) h1 rfl rfl ⟨rfl, rfl⟩ rfl (fun w8 => ?_)
  refine sim_seg [(.aload_n 0, 0, 0, 0), (.iload 7, 0, 0, 0)] [] (q := 40) (L' := [some (.ref a0), some (.int b1), some (.int b2), some (.int b3), some (.int b4), some (.int b5), some (.int b6), some (.int b7)]) (st' := [.int b7, .ref a0]) (v1 := w8) (by decide +kernel) rfl trivial ?_
  refine sim_puti (idx := 31) (ci := 1) (m := 6) (pc3 := 43) (by decide +kernel) (by decide) (Or.inr ⟨rfl, rfl⟩) h1 rfl rfl ⟨rfl, rfl⟩ rfl (fun w9 => ?_)
  exact sim_vret (by decide +kernel) rfl rfl
def B_sg_firstEdge : bd := (⟨"GateCounter$Signal", "firstEdge", "(I)I"⟩, prog_5_method_14_code, 2, (some .int), [], 3, 0)
theorem m_sg_firstEdge : mV B_sg_firstEdge 3 1 := ⟨⟨⟨by decide +kernel, Or.inl rfl⟩, rfl, (List.mem_of_getElem? (i := 949) (by decide +kernel)), by decide +kernel, (List.mem_of_getElem? (i := 61) (by decide +kernel)), ⟨by decide, by decide⟩, by decide⟩, rfl, (by unfold nar; decide +kernel), (List.mem_of_getElem? (i := 948) (by decide +kernel)), rfl, (List.mem_of_getElem? (i := 31) (by decide +kernel))⟩
noncomputable def F_sg_firstEdge (a0 : Nat) (b1 : Int32) (S : shp) (v : vl) : Option Int32 :=
  grd (kin S a0 = some (0, 3)) <| (gr S a0 11).bind fun r2 => grd (kin S r2 = some (1, 8)) <| grd (vp_in b1 (alen S r2)) <| (if (J 0) < (gi v r2 (Int32.toNatClampNeg b1)) then (gr S a0 10).bind fun r6 => grd (kin S r6 = some (1, 8)) <| grd (vp_in b1 (alen S r6)) <| lt ((gi v r6 (Int32.toNatClampNeg b1)) + (gi v r2 (Int32.toNatClampNeg b1))) fun x10 => some (x10) else some ((J (-1))))
theorem ok_sg_firstEdge (a0 : Nat) (b1 : Int32) (S : shp) (v : vl) : SimK B_sg_firstEdge 0 (entB (bN B_sg_firstEdge) [.ref a0, .int b1]) [] S v (F_sg_firstEdge a0 b1 S v) (ρri S v) := by
  show SimK B_sg_firstEdge 0 [some (.ref a0), some (.int b1)] [] S v (F_sg_firstEdge a0 b1 S v) _
  unfold F_sg_firstEdge
  refine sim_grd fun h1 => ?_
  refine sim_bind fun r2 h3 => ?_
  refine sim_grd fun h4 => ?_
  refine sim_grd fun h5 => ?_
  refine sim_seg [(.aload_n 0, 0, 0, 0), (.getfield 15, 3, 11, 0), (.iload_n 1, 0, 0, 0), (.iaload, 0, 0, 0)] [r2] (q := 6) (L' := [some (.ref a0), some (.int b1)]) (st' := [.int (gi v r2 (Int32.toNatClampNeg b1))]) (v1 := v) (by decide +kernel) rfl ⟨⟨h1, h3⟩, ⟨(Or.inl (kin_alen h4)), h5⟩, trivial⟩ ?_
  refine sim_le0 (o := 19) (tg := 25) (f := 9) (by decide +kernel) rfl rfl (fun _ => ?_) (fun _ => ?_)
  · refine sim_bind fun r6 h7 => ?_
    refine sim_grd fun h8 => ?_
    refine sim_grd fun h9 => ?_
    refine sim_seg [(.aload_n 0, 0, 0, 0), (.getfield 9, 3, 10, 0), (.iload_n 1, 0, 0, 0), (.iaload, 0, 0, 0), (.aload_n 0, 0, 0, 0), (.getfield 15, 3, 11, 0), (.iload_n 1, 0, 0, 0), (.iaload, 0, 0, 0), (.iadd, 0, 0, 0), (.goto 4, 0, 0, 0)] [r6, r2] (q := 26) (L' := [some (.ref a0), some (.int b1)]) (st' := [.int ((gi v r6 (Int32.toNatClampNeg b1)) + (gi v r2 (Int32.toNatClampNeg b1)))]) (v1 := v) (by decide +kernel) rfl ⟨⟨h1, h7⟩, ⟨(Or.inl (kin_alen h8)), h9⟩, ⟨h1, h3⟩, ⟨(Or.inl (kin_alen h4)), h5⟩, trivial⟩ ?_
    refine sim_nm ((gi v r6 (Int32.toNatClampNeg b1)) + (gi v r2 (Int32.toNatClampNeg b1))) (fun x10 => [some (.ref a0), some (.int b1)]) (fun x10 => [.int x10]) (fun x10 => ?_) rfl rfl
    exact sim_iret (by decide +kernel) rfl rfl rfl
  · refine sim_seg [(.iconst (-1), 0, 0, (-1))] [] (q := 26) (L' := [some (.ref a0), some (.int b1)]) (st' := [.int (J (-1))]) (v1 := v) (by decide +kernel) rfl trivial ?_
    exact sim_iret (by decide +kernel) rfl rfl rfl
def B_sg_edgesUpTo : bd := (⟨"GateCounter$Signal", "edgesUpTo", "(III)I"⟩, prog_5_method_13_code, 3, (some .int), [], 3, 0)
theorem m_sg_edgesUpTo : mS B_sg_edgesUpTo 3 := ⟨⟨⟨by decide +kernel, Or.inl rfl⟩, rfl, (List.mem_of_getElem? (i := 945) (by decide +kernel)), by decide +kernel, (List.mem_of_getElem? (i := 61) (by decide +kernel)), ⟨by decide, by decide⟩, by decide⟩, rfl, (by unfold nar; decide +kernel), (List.mem_of_getElem? (i := 944) (by decide +kernel))⟩
noncomputable def F_sg_edgesUpTo (b0 : Int32) (b1 : Int32) (b2 : Int32) (S : shp) (v : vl) : Option Int32 :=
  (if b1 = (J (-1)) then some ((J 0)) else (if b0 < b1 then some ((J 0)) else (if (J 0) < b2 then grd (¬ b2 = 0) <| some ((((b0 - b1) / b2) + (J 1))) else some ((J 0)))))
theorem ok_sg_edgesUpTo (b0 : Int32) (b1 : Int32) (b2 : Int32) (S : shp) (v : vl) : SimK B_sg_edgesUpTo 0 (entB (bN B_sg_edgesUpTo) [.int b0, .int b1, .int b2]) [] S v (F_sg_edgesUpTo b0 b1 b2 S v) (ρri S v) := by
  show SimK B_sg_edgesUpTo 0 [some (.int b0), some (.int b1), some (.int b2)] [] S v (F_sg_edgesUpTo b0 b1 b2 S v) _
  unfold F_sg_edgesUpTo
  refine sim_seg [(.iload_n 1, 0, 0, 0), (.iconst (-1), 0, 0, (-1))] [] (q := 2) (L' := [some (.int b0), some (.int b1), some (.int b2)]) (st' := [.int (J (-1)), .int b1]) (v1 := v) (by decide +kernel) rfl trivial ?_
  refine sim_eq (o := 22) (tg := 24) (f := 5) (by decide +kernel) rfl rfl (fun _ => ?_) (fun _ => ?_)
  · refine sim_seg [(.iconst 0, 0, 0, 0)] [] (q := 25) (L' := [some (.int b0), some (.int b1), some (.int b2)]) (st' := [.int (J 0)]) (v1 := v) (by decide +kernel) rfl trivial ?_
    exact sim_iret (by decide +kernel) rfl rfl rfl
  · refine sim_seg [(.iload_n 1, 0, 0, 0), (.iload_n 0, 0, 0, 0)] [] (q := 7) (L' := [some (.int b0), some (.int b1), some (.int b2)]) (st' := [.int b0, .int b1]) (v1 := v) (by decide +kernel) rfl trivial ?_
    refine sim_gt (o := 17) (tg := 24) (f := 10) (by decide +kernel) rfl rfl (fun _ => ?_) (fun _ => ?_)
    · refine sim_seg [(.iconst 0, 0, 0, 0)] [] (q := 25) (L' := [some (.int b0), some (.int b1), some (.int b2)]) (st' := [.int (J 0)]) (v1 := v) (by decide +kernel) rfl trivial ?_
      exact sim_iret (by decide +kernel) rfl rfl rfl
    · refine sim_seg [(.iload_n 2, 0, 0, 0)] [] (q := 11) (L' := [some (.int b0), some (.int b1), some (.int b2)]) (st' := [.int b2]) (v1 := v) (by decide +kernel) rfl trivial ?_
      refine sim_le0 (o := 13) (tg := 24) (f := 14) (by decide +kernel) rfl rfl (fun _ => ?_) (fun _ => ?_)
      · refine sim_grd fun h1 => ?_
        refine sim_seg [(.iload_n 0, 0, 0, 0), (.iload_n 1, 0, 0, 0), (.isub, 0, 0, 0), (.iload_n 2, 0, 0, 0), (.idiv, 0, 0, 0), (.iconst 1, 0, 0, 1), (.iadd, 0, 0, 0), (.goto 4, 0, 0, 0)] [] (q := 25) (L' := [some (.int b0), some (.int b1), some (.int b2)]) (st' := [.int (((b0 - b1) / b2) + (J 1))]) (v1 := v) (by decide +kernel) rfl ⟨h1, trivial⟩ ?_
        exact sim_iret (by decide +kernel) rfl rfl rfl
      · refine sim_seg [(.iconst 0, 0, 0, 0)] [] (q := 25) (L' := [some (.int b0), some (.int b1), some (.int b2)]) (st' := [.int (J 0)]) (v1 := v) (by decide +kernel) rfl trivial ?_
        exact sim_iret (by decide +kernel) rfl rfl rfl
def B_sg_passEdgesUpTo : bd := (⟨"GateCounter$Signal", "passEdgesUpTo", "(I)V"⟩, prog_5_method_12_code, 3, none, [], 3, 1)
theorem m_sg_passEdgesUpTo : mV B_sg_passEdgesUpTo 3 1 := ⟨⟨⟨by decide +kernel, Or.inl rfl⟩, rfl, (List.mem_of_getElem? (i := 942) (by decide +kernel)), by decide +kernel, (List.mem_of_getElem? (i := 61) (by decide +kernel)), ⟨by decide, by decide⟩, by decide⟩, rfl, (by unfold nar; decide +kernel), (List.mem_of_getElem? (i := 941) (by decide +kernel)), rfl, (List.mem_of_getElem? (i := 30) (by decide +kernel))⟩
noncomputable def F_sg_passEdgesUpTo (a0 : Nat) (b1 : Int32) (S : shp) (v : vl) : Option vl :=
  grd (kin S a0 = some (0, 3)) <| (F_sg_edgesUpTo b1 (gi v a0 1) (gi v a0 0) S v).bind fun x2 => (if (J 0) < x2 then (if (J 0) < (gi v a0 4) then lt (si v a0 2 ((gi v a0 2) + x2)) fun w3 => lt (si w3 a0 1 ((gi w3 a0 1) + (x2 * (gi w3 a0 0)))) fun w4 => grd (¬ (gi w4 a0 4) = 0) <| lt (si w4 a0 3 ((gi w4 a0 3) + (((gi w4 a0 5) + x2) / (gi w4 a0 4)))) fun w6 => grd (¬ (gi w6 a0 4) = 0) <| lt (si w6 a0 5 (((gi w6 a0 5) + x2) - ((gi w6 a0 5) + x2) / (gi w6 a0 4) * (gi w6 a0 4))) fun w8 => some (w8) else some (v)) else some (v))
theorem ok_sg_passEdgesUpTo (a0 : Nat) (b1 : Int32) (S : shp) (v : vl) : SimK B_sg_passEdgesUpTo 0 (entB (bN B_sg_passEdgesUpTo) [.ref a0, .int b1]) [] S v (F_sg_passEdgesUpTo a0 b1 S v) (ρpv S) := by
  show SimK B_sg_passEdgesUpTo 0 [some (.ref a0), some (.int b1), none] [] S v (F_sg_passEdgesUpTo a0 b1 S v) _
  unfold F_sg_passEdgesUpTo
  refine sim_grd fun h1 => ?_
  refine sim_seg [(.iload_n 1, 0, 0, 0), (.aload_n 0, 0, 0, 0), (.getfield 22, 3, 1, 0), (.aload_n 0, 0, 0, 0), (.getfield 18, 3, 0, 0)] [] (q := 9) (L' := [some (.ref a0), some (.int b1), none]) (st' := [.int (gi v a0 0), .int (gi v a0 1), .int b1]) (v1 := v) (by decide +kernel) rfl ⟨h1, h1, trivial⟩ ?_
  refine sc_ri (pc3 := 12) (cf_S (idx := 70) [.int b1, .int (gi v a0 1), .int (gi v a0 0)] m_sg_edgesUpTo ⟨by decide, by decide⟩ (List.mem_of_getElem? (i := 943) (by decide +kernel)) rfl (Nat.le_of_ble_eq_true rfl) (by decide +kernel) (Nat.le_of_ble_eq_true rfl) rfl) (ok_sg_edgesUpTo b1 (gi v a0 1) (gi v a0 0) S v) rfl (fun x2 => ?_)
  refine sim_seg [(.istore_n 2, 0, 0, 0)] [] (q := 13) (L' := [some (.ref a0), some (.int b1), some (.int x2)]) (st' := []) (v1 := v) (by decide +kernel) rfl trivial ?_
  refine sim_seg [(.iload_n 2, 0, 0, 0)] [] (q := 14) (L' := [some (.ref a0), some (.int b1), some (.int x2)]) (st' := [.int x2]) (v1 := v) (by decide +kernel) rfl trivial ?_
  refine sim_le0 (o := 70) (tg := 84) (f := 17) (by decide +kernel) rfl rfl (fun _ => ?_) (fun _ => ?_)
  · refine sim_seg [(.aload_n 0, 0, 0, 0), (.getfield 41, 3, 4, 0)] [] (q := 21) (L' := [some (.ref a0), some (.int b1), some (.int x2)]) (st' := [.int (gi v a0 4)]) (v1 := v) (by decide +kernel) rfl ⟨h1, trivial⟩ ?_
    refine sim_le0 (o := 63) (tg := 84) (f := 24) (by decide +kernel) rfl rfl (fun _ => ?_) (fun _ => ?_)
    · refine sim_seg [(.aload_n 0, 0, 0, 0), (.dup, 0, 0, 0), (.getfield 25, 3, 2, 0), (.iload_n 2, 0, 0, 0), (.iadd, 0, 0, 0), (.putfield 25, 3, 2, 0), (.aload_n 0, 0, 0, 0), (.dup, 0, 0, 0)] [] (q := 36) (L' := [some (.ref a0), some (.int b1), some (.int x2)]) (st' := [.ref a0, .ref a0]) (v1 := (si v a0 2 ((gi v a0 2) + x2))) (by decide +kernel) rfl ⟨h1, h1, trivial⟩ ?_
      refine sim_lt (x := (si v a0 2 ((gi v a0 2) + x2))) ?_
      generalize (si v a0 2 ((gi v a0 2) + x2)) = w3
      refine sim_seg [(.getfield 22, 3, 1, 0), (.iload_n 2, 0, 0, 0), (.aload_n 0, 0, 0, 0), (.getfield 18, 3, 0, 0), (.imul, 0, 0, 0), (.iadd, 0, 0, 0), (.putfield 22, 3, 1, 0), (.aload_n 0, 0, 0, 0), (.dup, 0, 0, 0)] [] (q := 51) (L' := [some (.ref a0), some (.int b1), some (.int x2)]) (st' := [.ref a0, .ref a0]) (v1 := (si w3 a0 1 ((gi w3 a0 1) + (x2 * (gi w3 a0 0))))) (by decide +kernel) rfl ⟨h1, h1, h1, trivial⟩ ?_
      refine sim_lt (x := (si w3 a0 1 ((gi w3 a0 1) + (x2 * (gi w3 a0 0))))) ?_
      generalize (si w3 a0 1 ((gi w3 a0 1) + (x2 * (gi w3 a0 0)))) = w4
      refine sim_grd fun h5 => ?_
      refine sim_seg [(.getfield 28, 3, 3, 0), (.aload_n 0, 0, 0, 0), (.getfield 44, 3, 5, 0), (.iload_n 2, 0, 0, 0), (.iadd, 0, 0, 0), (.aload_n 0, 0, 0, 0), (.getfield 41, 3, 4, 0), (.idiv, 0, 0, 0), (.iadd, 0, 0, 0), (.putfield 28, 3, 3, 0), (.aload_n 0, 0, 0, 0), (.aload_n 0, 0, 0, 0)] [] (q := 71) (L' := [some (.ref a0), some (.int b1), some (.int x2)]) (st' := [.ref a0, .ref a0]) (v1 := (si w4 a0 3 ((gi w4 a0 3) + (((gi w4 a0 5) + x2) / (gi w4 a0 4))))) (by decide +kernel) rfl ⟨h1, h1, h1, h5, h1, trivial⟩ ?_
      refine sim_lt (x := (si w4 a0 3 ((gi w4 a0 3) + (((gi w4 a0 5) + x2) / (gi w4 a0 4))))) ?_
      generalize (si w4 a0 3 ((gi w4 a0 3) + (((gi w4 a0 5) + x2) / (gi w4 a0 4)))) = w6
      refine sim_grd fun h7 => ?_
      refine sim_seg [(.getfield 44, 3, 5, 0), (.iload_n 2, 0, 0, 0), (.iadd, 0, 0, 0), (.aload_n 0, 0, 0, 0), (.getfield 41, 3, 4, 0), (.irem, 0, 0, 0), (.putfield 44, 3, 5, 0)] [] (q := 84) (L' := [some (.ref a0), some (.int b1), some (.int x2)]) (st' := []) (v1 := (si w6 a0 5 (((gi w6 a0 5) + x2) - ((gi w6 a0 5) + x2) / (gi w6 a0 4) * (gi w6 a0 4)))) (by decide +kernel) rfl ⟨h1, h1, h7, h1, trivial⟩ ?_
      refine sim_lt (x := (si w6 a0 5 (((gi w6 a0 5) + x2) - ((gi w6 a0 5) + x2) / (gi w6 a0 4) * (gi w6 a0 4)))) ?_
      generalize (si w6 a0 5 (((gi w6 a0 5) + x2) - ((gi w6 a0 5) + x2) / (gi w6 a0 4) * (gi w6 a0 4))) = w8
      exact sim_vret (by decide +kernel) rfl rfl
    · exact sim_vret (by decide +kernel) rfl rfl
  · exact sim_vret (by decide +kernel) rfl rfl
def B_sg_pass : bd := (⟨"GateCounter$Signal", "pass", "(II)V"⟩, prog_5_method_11_code, 4, none, [], 3, 2)
theorem m_sg_pass : mV B_sg_pass 3 2 := ⟨⟨⟨by decide +kernel, Or.inl rfl⟩, rfl, (List.mem_of_getElem? (i := 938) (by decide +kernel)), by decide +kernel, (List.mem_of_getElem? (i := 61) (by decide +kernel)), ⟨by decide, by decide⟩, by decide⟩, rfl, (by unfold nar; decide +kernel), (List.mem_of_getElem? (i := 937) (by decide +kernel)), rfl, (List.mem_of_getElem? (i := 29) (by decide +kernel))⟩
noncomputable def Y_sg_pass_5 (N : Nat)  (i5 : vl → Nat → Int32 → Int32 → Int32 → Option vl) (S : shp) (v : vl) (p0 : Nat) (p1 : Int32) (p2 : Int32) (p3 : Int32) : Option vl :=
  grd (kin S p0 = some (0, 3)) <| (if p3 < (gi v p0 8) then (gr S p0 10).bind fun r3 => grd (kin S r3 = some (1, 8)) <| grd (vp_in p3 (alen S r3)) <| (if p1 < (gi v r3 (Int32.toNatClampNeg p3)) then (F_sg_passEdgesUpTo p0 p2 S v).bind fun w7 => some (w7) else (F_sg_passEdgesUpTo p0 ((gi v r3 (Int32.toNatClampNeg p3)) - (J 1)) S v).bind fun w8 => (gr S p0 11).bind fun r9 => grd (kin S r9 = some (1, 8)) <| grd (vp_in p3 (alen S r9)) <| lt (si w8 p0 0 (gi w8 r9 (Int32.toNatClampNeg p3))) fun w13 => (F_sg_firstEdge p0 p3 S w13).bind fun x14 => lt (si (si w13 p0 1 x14) p0 9 (p3 + (J 1))) fun w15 => i5 w15 p0 p1 p2 (p3 + (J 1))) else (F_sg_passEdgesUpTo p0 p2 S v).bind fun w16 => some (w16))
noncomputable def K_sg_pass_5 (N : Nat)  (n : Nat) (S : shp) : vl → Nat → Int32 → Int32 → Int32 → Option vl :=
  Nat.rec (motive := fun _ => vl → Nat → Int32 → Int32 → Int32 → Option vl) (fun _ _ _ _ _ => none) (fun _ i => Y_sg_pass_5 N  i S) n
theorem sY_sg_pass_5 (N : Nat)  (i5 : vl → Nat → Int32 → Int32 → Int32 → Option vl) (S : shp)  (j5 : ∀ (v : vl) (p0 : Nat) (p1 : Int32) (p2 : Int32) (p3 : Int32), SimK B_sg_pass 5 [some (.ref p0), some (.int p1), some (.int p2), some (.int p3)] [] S v (i5 v p0 p1 p2 p3) (ρpv S)) (v : vl) (p0 : Nat) (p1 : Int32) (p2 : Int32) (p3 : Int32) : SimK B_sg_pass 5 [some (.ref p0), some (.int p1), some (.int p2), some (.int p3)] [] S v (Y_sg_pass_5 N  i5 S v p0 p1 p2 p3) (ρpv S) := by
  unfold Y_sg_pass_5
  refine sim_grd fun h2 => ?_
  refine sim_seg [(.iload_n 3, 0, 0, 0), (.aload_n 0, 0, 0, 0), (.getfield 35, 3, 8, 0)] [] (q := 10) (L' := [some (.ref p0), some (.int p1), some (.int p2), some (.int p3)]) (st' := [.int (gi v p0 8), .int p3]) (v1 := v) (by decide +kernel) rfl ⟨h2, trivial⟩ ?_
  refine sim_ge (o := 57) (tg := 67) (f := 13) (by decide +kernel) rfl rfl (fun _ => ?_) (fun _ => ?_)
  · refine sim_bind fun r3 h4 => ?_
    refine sim_grd fun h5 => ?_
    refine sim_grd fun h6 => ?_
    refine sim_seg [(.aload_n 0, 0, 0, 0), (.getfield 9, 3, 10, 0), (.iload_n 3, 0, 0, 0), (.iaload, 0, 0, 0), (.iload_n 1, 0, 0, 0)] [r3] (q := 20) (L' := [some (.ref p0), some (.int p1), some (.int p2), some (.int p3)]) (st' := [.int p1, .int (gi v r3 (Int32.toNatClampNeg p3))]) (v1 := v) (by decide +kernel) rfl ⟨⟨h2, h4⟩, ⟨(Or.inl (kin_alen h5)), h6⟩, trivial⟩ ?_
    refine sim_gt (o := 47) (tg := 67) (f := 23) (by decide +kernel) rfl rfl (fun _ => ?_) (fun _ => ?_)
    · refine sim_seg [(.aload_n 0, 0, 0, 0), (.iload_n 2, 0, 0, 0)] [] (q := 69) (L' := [some (.ref p0), some (.int p1), some (.int p2), some (.int p3)]) (st' := [.int p2, .ref p0]) (v1 := v) (by decide +kernel) rfl trivial ?_
      refine sc_pv (pc3 := 72) (cf_V (idx := 63) (ci := 3) [.int p2] m_sg_passEdgesUpTo (by decide) ⟨by decide, by decide⟩ (List.mem_of_getElem? (i := 939) (by decide +kernel)) rfl (Nat.le_of_ble_eq_true rfl) h2 (by decide +kernel) (Nat.le_of_ble_eq_true rfl) rfl) (ok_sg_passEdgesUpTo p0 p2 S v) rfl (fun w7 => ?_)
      exact sim_vret (by decide +kernel) rfl rfl
    · refine sim_seg [(.aload_n 0, 0, 0, 0), (.aload_n 0, 0, 0, 0), (.getfield 9, 3, 10, 0), (.iload_n 3, 0, 0, 0), (.iaload, 0, 0, 0), (.iconst 1, 0, 0, 1), (.isub, 0, 0, 0)] [r3] (q := 32) (L' := [some (.ref p0), some (.int p1), some (.int p2), some (.int p3)]) (st' := [.int ((gi v r3 (Int32.toNatClampNeg p3)) - (J 1)), .ref p0]) (v1 := v) (by decide +kernel) rfl ⟨⟨h2, h4⟩, ⟨(Or.inl (kin_alen h5)), h6⟩, trivial⟩ ?_
      refine sc_pv (pc3 := 35) (cf_V (idx := 63) (ci := 3) [.int ((gi v r3 (Int32.toNatClampNeg p3)) - (J 1))] m_sg_passEdgesUpTo (by decide) ⟨by decide, by decide⟩ (List.mem_of_getElem? (i := 939) (by decide +kernel)) rfl (Nat.le_of_ble_eq_true rfl) h2 (by decide +kernel) (Nat.le_of_ble_eq_true rfl) rfl) (ok_sg_passEdgesUpTo p0 ((gi v r3 (Int32.toNatClampNeg p3)) - (J 1)) S v) rfl (fun w8 => ?_)
      refine sim_bind fun r9 h10 => ?_
      refine sim_grd fun h11 => ?_
      refine sim_grd fun h12 => ?_
      refine sim_seg [(.aload_n 0, 0, 0, 0), (.aload_n 0, 0, 0, 0), (.getfield 15, 3, 11, 0), (.iload_n 3, 0, 0, 0), (.iaload, 0, 0, 0), (.putfield 18, 3, 0, 0), (.aload_n 0, 0, 0, 0), (.aload_n 0, 0, 0, 0), (.iload_n 3, 0, 0, 0)] [r9] (q := 48) (L' := [some (.ref p0), some (.int p1), some (.int p2), some (.int p3)]) (st' := [.int p3, .ref p0, .ref p0]) (v1 := (si w8 p0 0 (gi w8 r9 (Int32.toNatClampNeg p3)))) (by decide +kernel) rfl ⟨⟨h2, h10⟩, ⟨(Or.inl (kin_alen h11)), h12⟩, h2, trivial⟩ ?_
      refine sim_lt (x := (si w8 p0 0 (gi w8 r9 (Int32.toNatClampNeg p3)))) ?_
      generalize (si w8 p0 0 (gi w8 r9 (Int32.toNatClampNeg p3))) = w13
      refine sc_ri (pc3 := 51) (cf_V (idx := 66) (ci := 3) [.int p3] m_sg_firstEdge (by decide) ⟨by decide, by decide⟩ (List.mem_of_getElem? (i := 946) (by decide +kernel)) rfl (Nat.le_of_ble_eq_true rfl) h2 (by decide +kernel) (Nat.le_of_ble_eq_true rfl) rfl) (ok_sg_firstEdge p0 p3 S w13) rfl (fun x14 => ?_)
      refine sim_seg [(.putfield 22, 3, 1, 0), (.aload_n 0, 0, 0, 0), (.iload_n 3, 0, 0, 0), (.iconst 1, 0, 0, 1), (.iadd, 0, 0, 0), (.putfield 38, 3, 9, 0), (.iinc 3 1, 0, 0, 1)] [] (q := 64) (L' := [some (.ref p0), some (.int p1), some (.int p2), some (.int (p3 + (J 1)))]) (st' := []) (v1 := (si (si w13 p0 1 x14) p0 9 (p3 + (J 1)))) (by decide +kernel) rfl ⟨h2, h2, trivial⟩ ?_
      refine sim_lt (x := (si (si w13 p0 1 x14) p0 9 (p3 + (J 1)))) ?_
      generalize (si (si w13 p0 1 x14) p0 9 (p3 + (J 1))) = w15
      refine sim_seg [(.goto (-59), 0, 0, 0)] [] (q := 5) (L' := [some (.ref p0), some (.int p1), some (.int p2), some (.int (p3 + (J 1)))]) (st' := []) (v1 := w15) (by decide +kernel) rfl trivial ?_
      exact j5 w15 p0 p1 p2 (p3 + (J 1))
  · refine sim_seg [(.aload_n 0, 0, 0, 0), (.iload_n 2, 0, 0, 0)] [] (q := 69) (L' := [some (.ref p0), some (.int p1), some (.int p2), some (.int p3)]) (st' := [.int p2, .ref p0]) (v1 := v) (by decide +kernel) rfl trivial ?_
    refine sc_pv (pc3 := 72) (cf_V (idx := 63) (ci := 3) [.int p2] m_sg_passEdgesUpTo (by decide) ⟨by decide, by decide⟩ (List.mem_of_getElem? (i := 939) (by decide +kernel)) rfl (Nat.le_of_ble_eq_true rfl) h2 (by decide +kernel) (Nat.le_of_ble_eq_true rfl) rfl) (ok_sg_passEdgesUpTo p0 p2 S v) rfl (fun w16 => ?_)
    exact sim_vret (by decide +kernel) rfl rfl
theorem sR_sg_pass_5 (N : Nat)  (S : shp)  (n : Nat) : ∀ (v : vl) (p0 : Nat) (p1 : Int32) (p2 : Int32) (p3 : Int32), SimK B_sg_pass 5 [some (.ref p0), some (.int p1), some (.int p2), some (.int p3)] [] S v (K_sg_pass_5 N  n S v p0 p1 p2 p3) (ρpv S) := by
  induction n with
  | zero => intro v p0 p1 p2 p3; exact sim_none
  | succ k ih => intro v p0 p1 p2 p3; exact sY_sg_pass_5 N   _ S  ih v p0 p1 p2 p3
theorem sK_sg_pass_5 (N : Nat)  (n : Nat) (S : shp) (v : vl) (p0 : Nat) (p1 : Int32) (p2 : Int32) (p3 : Int32) : SimK B_sg_pass 5 [some (.ref p0), some (.int p1), some (.int p2), some (.int p3)] [] S v (K_sg_pass_5 N  n S v p0 p1 p2 p3) (ρpv S) := sR_sg_pass_5 N   S  n  v p0 p1 p2 p3
noncomputable def F_sg_pass (N : Nat) (a0 : Nat) (b1 : Int32) (b2 : Int32) (S : shp) (v : vl) : Option vl :=
  grd (kin S a0 = some (0, 3)) <| K_sg_pass_5 N  N S v a0 b1 b2 (gi v a0 9)
theorem ok_sg_pass (N : Nat) (a0 : Nat) (b1 : Int32) (b2 : Int32) (S : shp) (v : vl) : SimK B_sg_pass 0 (entB (bN B_sg_pass) [.ref a0, .int b1, .int b2]) [] S v (F_sg_pass N a0 b1 b2 S v) (ρpv S) := by
  show SimK B_sg_pass 0 [some (.ref a0), some (.int b1), some (.int b2), none] [] S v (F_sg_pass N a0 b1 b2 S v) _
  unfold F_sg_pass
  refine sim_grd fun h1 => ?_
  refine sim_seg [(.aload_n 0, 0, 0, 0), (.getfield 38, 3, 9, 0), (.istore_n 3, 0, 0, 0)] [] (q := 5) (L' := [some (.ref a0), some (.int b1), some (.int b2), some (.int (gi v a0 9))]) (st' := []) (v1 := v) (by decide +kernel) rfl ⟨h1, trivial⟩ ?_
  exact sK_sg_pass_5 N N S v a0 b1 b2 (gi v a0 9)
def B_sg_passAheadOfClock : bd := (⟨"GateCounter$Signal", "passAheadOfClock", "(I)V"⟩, prog_5_method_10_code, 2, none, [], 3, 3)
theorem m_sg_passAheadOfClock : mV B_sg_passAheadOfClock 3 1 := ⟨⟨⟨by decide +kernel, Or.inl rfl⟩, rfl, (List.mem_of_getElem? (i := 934) (by decide +kernel)), by decide +kernel, (List.mem_of_getElem? (i := 61) (by decide +kernel)), ⟨by decide, by decide⟩, by decide⟩, rfl, (by unfold nar; decide +kernel), (List.mem_of_getElem? (i := 932) (by decide +kernel)), rfl, (List.mem_of_getElem? (i := 933) (by decide +kernel))⟩
noncomputable def F_sg_passAheadOfClock (N : Nat) (a0 : Nat) (b1 : Int32) (S : shp) (v : vl) : Option vl :=
  grd (kin S a0 = some (0, 3)) <| (F_sg_pass N a0 b1 (b1 - (J 1)) S v).bind fun w2 => some (w2)
theorem ok_sg_passAheadOfClock (N : Nat) (a0 : Nat) (b1 : Int32) (S : shp) (v : vl) : SimK B_sg_passAheadOfClock 0 (entB (bN B_sg_passAheadOfClock) [.ref a0, .int b1]) [] S v (F_sg_passAheadOfClock N a0 b1 S v) (ρpv S) := by
  show SimK B_sg_passAheadOfClock 0 [some (.ref a0), some (.int b1)] [] S v (F_sg_passAheadOfClock N a0 b1 S v) _
  unfold F_sg_passAheadOfClock
  refine sim_seg [(.aload_n 0, 0, 0, 0), (.iload_n 1, 0, 0, 0), (.iload_n 1, 0, 0, 0), (.iconst 1, 0, 0, 1), (.isub, 0, 0, 0)] [] (q := 5) (L' := [some (.ref a0), some (.int b1)]) (st' := [.int (b1 - (J 1)), .int b1, .ref a0]) (v1 := v) (by decide +kernel) rfl trivial ?_
  refine sim_grd fun h1 => ?_
  refine sc_pv (pc3 := 8) (cf_V (idx := 59) (ci := 3) [.int b1, .int (b1 - (J 1))] m_sg_pass (by decide) ⟨by decide, by decide⟩ (List.mem_of_getElem? (i := 935) (by decide +kernel)) rfl (Nat.le_of_ble_eq_true rfl) h1 (by decide +kernel) (Nat.le_of_ble_eq_true rfl) rfl) (ok_sg_pass N a0 b1 (b1 - (J 1)) S v) rfl (fun w2 => ?_)
  exact sim_vret (by decide +kernel) rfl rfl
