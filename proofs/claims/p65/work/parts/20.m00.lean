/-! Methods: ma_floorMod, ma_min, ma_floorDiv, ma_max, ma_floorDiv2. -/
def B_ma_floorMod : bd := (⟨"java/lang/Math", "floorMod", "(II)I"⟩, prog_16_method_50_code, 3, (some .int), [], 12, 0)
theorem m_ma_floorMod : mS B_ma_floorMod 2 := ⟨⟨⟨by decide +kernel, Or.inl rfl⟩, rfl, (List.mem_of_getElem? (i := 930) (by decide +kernel)), by decide +kernel, (List.mem_of_getElem? (i := 50) (by decide +kernel)), ⟨by decide, by decide⟩, by decide⟩, rfl, (by unfold nar; decide +kernel), (List.mem_of_getElem? (i := 929) (by decide +kernel))⟩
noncomputable def F_ma_floorMod (b0 : Int32) (b1 : Int32) (S : shp) (v : vl) : Option Int32 :=
  grd (¬ b1 = 0) <| (if (b0 ^^^ b1) < (J 0) then (if (b0 - b0 / b1 * b1) = (J 0) then some ((b0 - b0 / b1 * b1)) else some (((b0 - b0 / b1 * b1) + b1))) else some ((b0 - b0 / b1 * b1)))
theorem ok_ma_floorMod (b0 : Int32) (b1 : Int32) (S : shp) (v : vl) : SimK B_ma_floorMod 0 (entB (bN B_ma_floorMod) [.int b0, .int b1]) [] S v (F_ma_floorMod b0 b1 S v) (ρri S v) := by
  show SimK B_ma_floorMod 0 [some (.int b0), some (.int b1), none] [] S v (F_ma_floorMod b0 b1 S v) _
  unfold F_ma_floorMod
  refine sim_grd fun h1 => ?_
  refine sim_seg [(.iload_n 0, 0, 0, 0), (.iload_n 1, 0, 0, 0), (.irem, 0, 0, 0), (.istore_n 2, 0, 0, 0)] [] (q := 4) (L' := [some (.int b0), some (.int b1), some (.int (b0 - b0 / b1 * b1))]) (st' := []) (v1 := v) (by decide +kernel) rfl ⟨h1, trivial⟩ ?_
  refine sim_seg [(.iload_n 0, 0, 0, 0), (.iload_n 1, 0, 0, 0), (.ixor, 0, 0, 0)] [] (q := 7) (L' := [some (.int b0), some (.int b1), some (.int (b0 - b0 / b1 * b1))]) (st' := [.int (b0 ^^^ b1)]) (v1 := v) (by decide +kernel) rfl trivial ?_
  refine sim_ge0 (o := 11) (tg := 18) (f := 10) (by decide +kernel) rfl rfl (fun _ => ?_) (fun _ => ?_)
  · refine sim_seg [(.iload_n 2, 0, 0, 0)] [] (q := 11) (L' := [some (.int b0), some (.int b1), some (.int (b0 - b0 / b1 * b1))]) (st' := [.int (b0 - b0 / b1 * b1)]) (v1 := v) (by decide +kernel) rfl trivial ?_
    refine sim_eq0 (o := 7) (tg := 18) (f := 14) (by decide +kernel) rfl rfl (fun _ => ?_) (fun _ => ?_)
    · refine sim_seg [(.iload_n 2, 0, 0, 0)] [] (q := 19) (L' := [some (.int b0), some (.int b1), some (.int (b0 - b0 / b1 * b1))]) (st' := [.int (b0 - b0 / b1 * b1)]) (v1 := v) (by decide +kernel) rfl trivial ?_
      exact sim_iret (by decide +kernel) rfl rfl rfl
    · refine sim_seg [(.iload_n 2, 0, 0, 0), (.iload_n 1, 0, 0, 0), (.iadd, 0, 0, 0)] [] (q := 17) (L' := [some (.int b0), some (.int b1), some (.int (b0 - b0 / b1 * b1))]) (st' := [.int ((b0 - b0 / b1 * b1) + b1)]) (v1 := v) (by decide +kernel) rfl trivial ?_
      exact sim_iret (by decide +kernel) rfl rfl rfl
  · refine sim_seg [(.iload_n 2, 0, 0, 0)] [] (q := 19) (L' := [some (.int b0), some (.int b1), some (.int (b0 - b0 / b1 * b1))]) (st' := [.int (b0 - b0 / b1 * b1)]) (v1 := v) (by decide +kernel) rfl trivial ?_
    exact sim_iret (by decide +kernel) rfl rfl rfl
def B_ma_min : bd := (⟨"java/lang/Math", "min", "(II)I"⟩, prog_16_method_69_code, 2, (some .int), [], 12, 0)
theorem m_ma_min : mS B_ma_min 2 := ⟨⟨⟨by decide +kernel, Or.inl rfl⟩, rfl, (List.mem_of_getElem? (i := 587) (by decide +kernel)), by decide +kernel, (List.mem_of_getElem? (i := 50) (by decide +kernel)), ⟨by decide, by decide⟩, by decide⟩, rfl, (by unfold nar; decide +kernel), (List.mem_of_getElem? (i := 586) (by decide +kernel))⟩
noncomputable def F_ma_min (b0 : Int32) (b1 : Int32) (S : shp) (v : vl) : Option Int32 :=
  (if b1 < b0 then some (b1) else some (b0))
theorem ok_ma_min (b0 : Int32) (b1 : Int32) (S : shp) (v : vl) : SimK B_ma_min 0 (entB (bN B_ma_min) [.int b0, .int b1]) [] S v (F_ma_min b0 b1 S v) (ρri S v) := by
  show SimK B_ma_min 0 [some (.int b0), some (.int b1)] [] S v (F_ma_min b0 b1 S v) _
  unfold F_ma_min
  refine sim_seg [(.iload_n 0, 0, 0, 0), (.iload_n 1, 0, 0, 0)] [] (q := 2) (L' := [some (.int b0), some (.int b1)]) (st' := [.int b1, .int b0]) (v1 := v) (by decide +kernel) rfl trivial ?_
  refine sim_gt (o := 7) (tg := 9) (f := 5) (by decide +kernel) rfl rfl (fun _ => ?_) (fun _ => ?_)
  · refine sim_seg [(.iload_n 1, 0, 0, 0)] [] (q := 10) (L' := [some (.int b0), some (.int b1)]) (st' := [.int b1]) (v1 := v) (by decide +kernel) rfl trivial ?_
    exact sim_iret (by decide +kernel) rfl rfl rfl
  · refine sim_seg [(.iload_n 0, 0, 0, 0), (.goto 4, 0, 0, 0)] [] (q := 10) (L' := [some (.int b0), some (.int b1)]) (st' := [.int b0]) (v1 := v) (by decide +kernel) rfl trivial ?_
    exact sim_iret (by decide +kernel) rfl rfl rfl
def B_ma_floorDiv : bd := (⟨"java/lang/Math", "floorDiv", "(II)I"⟩, prog_16_method_47_code, 3, (some .int), [], 12, 0)
theorem m_ma_floorDiv : mS B_ma_floorDiv 2 := ⟨⟨⟨by decide +kernel, Or.inl rfl⟩, rfl, (List.mem_of_getElem? (i := 927) (by decide +kernel)), by decide +kernel, (List.mem_of_getElem? (i := 50) (by decide +kernel)), ⟨by decide, by decide⟩, by decide⟩, rfl, (by unfold nar; decide +kernel), (List.mem_of_getElem? (i := 926) (by decide +kernel))⟩
noncomputable def F_ma_floorDiv (b0 : Int32) (b1 : Int32) (S : shp) (v : vl) : Option Int32 :=
  grd (¬ b1 = 0) <| (if (b0 ^^^ b1) < (J 0) then (if ((b0 / b1) * b1) = b0 then some ((b0 / b1)) else some (((b0 / b1) - (J 1)))) else some ((b0 / b1)))
theorem ok_ma_floorDiv (b0 : Int32) (b1 : Int32) (S : shp) (v : vl) : SimK B_ma_floorDiv 0 (entB (bN B_ma_floorDiv) [.int b0, .int b1]) [] S v (F_ma_floorDiv b0 b1 S v) (ρri S v) := by
  show SimK B_ma_floorDiv 0 [some (.int b0), some (.int b1), none] [] S v (F_ma_floorDiv b0 b1 S v) _
  unfold F_ma_floorDiv
  refine sim_grd fun h1 => ?_
  refine sim_seg [(.iload_n 0, 0, 0, 0), (.iload_n 1, 0, 0, 0), (.idiv, 0, 0, 0), (.istore_n 2, 0, 0, 0)] [] (q := 4) (L' := [some (.int b0), some (.int b1), some (.int (b0 / b1))]) (st' := []) (v1 := v) (by decide +kernel) rfl ⟨h1, trivial⟩ ?_
  refine sim_seg [(.iload_n 0, 0, 0, 0), (.iload_n 1, 0, 0, 0), (.ixor, 0, 0, 0)] [] (q := 7) (L' := [some (.int b0), some (.int b1), some (.int (b0 / b1))]) (st' := [.int (b0 ^^^ b1)]) (v1 := v) (by decide +kernel) rfl trivial ?_
  refine sim_ge0 (o := 14) (tg := 21) (f := 10) (by decide +kernel) rfl rfl (fun _ => ?_) (fun _ => ?_)
  · refine sim_seg [(.iload_n 2, 0, 0, 0), (.iload_n 1, 0, 0, 0), (.imul, 0, 0, 0), (.iload_n 0, 0, 0, 0)] [] (q := 14) (L' := [some (.int b0), some (.int b1), some (.int (b0 / b1))]) (st' := [.int b0, .int ((b0 / b1) * b1)]) (v1 := v) (by decide +kernel) rfl trivial ?_
    refine sim_eq (o := 7) (tg := 21) (f := 17) (by decide +kernel) rfl rfl (fun _ => ?_) (fun _ => ?_)
    · refine sim_seg [(.iload_n 2, 0, 0, 0)] [] (q := 22) (L' := [some (.int b0), some (.int b1), some (.int (b0 / b1))]) (st' := [.int (b0 / b1)]) (v1 := v) (by decide +kernel) rfl trivial ?_
      exact sim_iret (by decide +kernel) rfl rfl rfl
    · refine sim_seg [(.iload_n 2, 0, 0, 0), (.iconst 1, 0, 0, 1), (.isub, 0, 0, 0)] [] (q := 20) (L' := [some (.int b0), some (.int b1), some (.int (b0 / b1))]) (st' := [.int ((b0 / b1) - (J 1))]) (v1 := v) (by decide +kernel) rfl trivial ?_
      exact sim_iret (by decide +kernel) rfl rfl rfl
  · refine sim_seg [(.iload_n 2, 0, 0, 0)] [] (q := 22) (L' := [some (.int b0), some (.int b1), some (.int (b0 / b1))]) (st' := [.int (b0 / b1)]) (v1 := v) (by decide +kernel) rfl trivial ?_
    exact sim_iret (by decide +kernel) rfl rfl rfl
def B_ma_max : bd := (⟨"java/lang/Math", "max", "(II)I"⟩, prog_16_method_65_code, 2, (some .int), [], 12, 0)
theorem m_ma_max : mS B_ma_max 2 := ⟨⟨⟨by decide +kernel, Or.inl rfl⟩, rfl, (List.mem_of_getElem? (i := 569) (by decide +kernel)), by decide +kernel, (List.mem_of_getElem? (i := 50) (by decide +kernel)), ⟨by decide, by decide⟩, by decide⟩, rfl, (by unfold nar; decide +kernel), (List.mem_of_getElem? (i := 568) (by decide +kernel))⟩
noncomputable def F_ma_max (b0 : Int32) (b1 : Int32) (S : shp) (v : vl) : Option Int32 :=
  (if b0 < b1 then some (b1) else some (b0))
theorem ok_ma_max (b0 : Int32) (b1 : Int32) (S : shp) (v : vl) : SimK B_ma_max 0 (entB (bN B_ma_max) [.int b0, .int b1]) [] S v (F_ma_max b0 b1 S v) (ρri S v) := by
  show SimK B_ma_max 0 [some (.int b0), some (.int b1)] [] S v (F_ma_max b0 b1 S v) _
  unfold F_ma_max
  refine sim_seg [(.iload_n 0, 0, 0, 0), (.iload_n 1, 0, 0, 0)] [] (q := 2) (L' := [some (.int b0), some (.int b1)]) (st' := [.int b1, .int b0]) (v1 := v) (by decide +kernel) rfl trivial ?_
  refine sim_lt' (o := 7) (tg := 9) (f := 5) (by decide +kernel) rfl rfl (fun _ => ?_) (fun _ => ?_)
  · refine sim_seg [(.iload_n 1, 0, 0, 0)] [] (q := 10) (L' := [some (.int b0), some (.int b1)]) (st' := [.int b1]) (v1 := v) (by decide +kernel) rfl trivial ?_
    exact sim_iret (by decide +kernel) rfl rfl rfl
  · refine sim_seg [(.iload_n 0, 0, 0, 0), (.goto 4, 0, 0, 0)] [] (q := 10) (L' := [some (.int b0), some (.int b1)]) (st' := [.int b0]) (v1 := v) (by decide +kernel) rfl trivial ?_
    exact sim_iret (by decide +kernel) rfl rfl rfl
def B_ma_floorDiv2 : bd := (⟨"java/lang/Math", "floorDiv", "(JJ)J"⟩, prog_16_method_49_code, 6, (some .long), [], 12, 0)
theorem m_ma_floorDiv2 : mS B_ma_floorDiv2 2 := ⟨⟨⟨by decide +kernel, Or.inl rfl⟩, rfl, (List.mem_of_getElem? (i := 858) (by decide +kernel)), by decide +kernel, (List.mem_of_getElem? (i := 50) (by decide +kernel)), ⟨by decide, by decide⟩, by decide⟩, rfl, (by unfold nar; decide +kernel), (List.mem_of_getElem? (i := 857) (by decide +kernel))⟩
noncomputable def F_ma_floorDiv2 (c0 : Int64) (c1 : Int64) (S : shp) (v : vl) : Option Int64 :=
  grd (¬ c1 = 0) <| (if (lg_cmp (c0 ^^^ c1) (JL 0)) < (J 0) then (if (lg_cmp ((c0 / c1) * c1) c0) = (J 0) then some ((c0 / c1)) else some (((c0 / c1) - (JL 1)))) else some ((c0 / c1)))
theorem ok_ma_floorDiv2 (c0 : Int64) (c1 : Int64) (S : shp) (v : vl) : SimK B_ma_floorDiv2 0 (entB (bN B_ma_floorDiv2) [.long c0, .long c1]) [] S v (F_ma_floorDiv2 c0 c1 S v) (ρrl S v) := by
  show SimK B_ma_floorDiv2 0 [some (.long c0), none, some (.long c1), none, none, none] [] S v (F_ma_floorDiv2 c0 c1 S v) _
  unfold F_ma_floorDiv2
  refine sim_grd fun h1 => ?_
  refine sim_seg [(.lload_n 0, 0, 0, 0), (.lload_n 2, 0, 0, 0), (.ldiv, 0, 0, 0), (.lstore 4, 0, 0, 0)] [] (q := 5) (L' := [some (.long c0), none, some (.long c1), none, some (.long (c0 / c1)), none]) (st' := []) (v1 := v) (by decide +kernel) rfl ⟨h1, trivial⟩ ?_
  refine sim_seg [(.lload_n 0, 0, 0, 0), (.lload_n 2, 0, 0, 0), (.lxor, 0, 0, 0), (.lconst 0, 0, 0, 0), (.lcmp, 0, 0, 0)] [] (q := 10) (L' := [some (.long c0), none, some (.long c1), none, some (.long (c0 / c1)), none]) (st' := [.int (lg_cmp (c0 ^^^ c1) (JL 0))]) (v1 := v) (by decide +kernel) rfl trivial ?_
  refine sim_ge0 (o := 17) (tg := 27) (f := 13) (by decide +kernel) rfl rfl (fun _ => ?_) (fun _ => ?_)
  · refine sim_seg [(.lload 4, 0, 0, 0), (.lload_n 2, 0, 0, 0), (.lmul, 0, 0, 0), (.lload_n 0, 0, 0, 0), (.lcmp, 0, 0, 0)] [] (q := 19) (L' := [some (.long c0), none, some (.long c1), none, some (.long (c0 / c1)), none]) (st' := [.int (lg_cmp ((c0 / c1) * c1) c0)]) (v1 := v) (by decide +kernel) rfl trivial ?_
    refine sim_eq0 (o := 8) (tg := 27) (f := 22) (by decide +kernel) rfl rfl (fun _ => ?_) (fun _ => ?_)
    · refine sim_seg [(.lload 4, 0, 0, 0)] [] (q := 29) (L' := [some (.long c0), none, some (.long c1), none, some (.long (c0 / c1)), none]) (st' := [.long (c0 / c1)]) (v1 := v) (by decide +kernel) rfl trivial ?_
      exact sim_lret (by decide +kernel) rfl rfl
    · refine sim_seg [(.lload 4, 0, 0, 0), (.lconst 1, 0, 0, 1), (.lsub, 0, 0, 0)] [] (q := 26) (L' := [some (.long c0), none, some (.long c1), none, some (.long (c0 / c1)), none]) (st' := [.long ((c0 / c1) - (JL 1))]) (v1 := v) (by decide +kernel) rfl trivial ?_
      exact sim_lret (by decide +kernel) rfl rfl
  · refine sim_seg [(.lload 4, 0, 0, 0)] [] (q := 29) (L' := [some (.long c0), none, some (.long c1), none, some (.long (c0 / c1)), none]) (st' := [.long (c0 / c1)]) (v1 := v) (by decide +kernel) rfl trivial ?_
    exact sim_lret (by decide +kernel) rfl rfl
