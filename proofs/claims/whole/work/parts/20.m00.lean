/-! Methods: ma_floorDiv, ma_floorMod, ma_max, ma_min, ma_abs. -/
def B_ma_floorDiv : bd := (⟨"java/lang/Math", "floorDiv", "(II)I"⟩, prog_21_method_47_code, 3, (some .int), [], 12, 0)
theorem m_ma_floorDiv : mS B_ma_floorDiv 2 := ⟨⟨⟨by decide +kernel, Or.inl rfl⟩, rfl, (List.mem_of_getElem? (i := 673) (by decide +kernel)), by decide +kernel, (List.mem_of_getElem? (i := 113) (by decide +kernel)), ⟨by decide, by decide⟩, by decide⟩, rfl, (by unfold nar; decide +kernel), (List.mem_of_getElem? (i := 672) (by decide +kernel))⟩
noncomputable def F_ma_floorDiv (b0 : Int32) (b1 : Int32) (S : shp) (v : vl) : Option Int32 :=
  grd (¬ b1 = 0) <| (if (b0 ^^^ b1) < (J 0) then (if ((b0 / b1) * b1) = b0 then some ((b0 / b1)) else some (((b0 / b1) - (J 1)))) else some ((b0 / b1)))
theorem ok_ma_floorDiv (b0 : Int32) (b1 : Int32) (S : shp) (v : vl) : SimK B_ma_floorDiv 0 (entB (bN B_ma_floorDiv) [.int b0, .int b1]) [] S v (F_ma_floorDiv b0 b1 S v) (ρri S v) := by
  show SimK B_ma_floorDiv 0 [some (.int b0), some (.int b1), none] [] S v (F_ma_floorDiv b0 b1 S v) _
  unfold F_ma_floorDiv
  refine sim_grd fun h1 => ?_
  refine sim_seg [(.iload_n 0, 0, 0, 0), (.iload_n 1, 0, 0, 0), (.idiv, 0, 0, 0), (.istore_n 2, 0, 0, 0)] [] (q := 4) (L' := [some (.int b0), some (.int b1), some (.int (b0 / b1))]) (st' := []) (v1 := v) (by decide +kernel) rfl ⟨h1, trivial⟩ ?_
  refine sim_seg [(.iload_n 0, 0, 0, 0), (.iload_n 1, 0, 0, 0), (.ixor, 0, 0, 0)] [] (q := 7) (L' := [some (.int b0), some (.int b1), some (.int (b0 / b1))]) (st' := [.int (b0 ^^^ b1)]) (v1 := v) (by decide +kernel) rfl trivial ?_
  refine sim_ge0 (o := 14) (tg := 21) (f := 10) (by decide +kernel) rfl rfl (fun _ => ?_) (fun _ => ?_)
  · refine sim_seg [(.iload_n 2, 0, 0, 0), (.iload_n 1, 0, 0, 0), (.imul, 0, 0, 0), (.iload_n 0, 0, 0, 0)] [] (q := 14) (L' := [some (.int b0), some (.int b1), some (.int (b0 / b1))]) (st' := [.int b0, .int ((b0 / b1) * b1)]) (v1 := v) (by decide +kernel) rfl trivial ?_
    refine sim_eq (o := 7) (tg := 21) (f := 17) (by decide +kernel) rfl rfl (fun _ => ?_) (fun _ => ?_)
    · refine sim_seg [(.iload_n 2, 0, 0, 0)] [] (q := 22) (L' := [some (.int b0), some (.int b1), some (.int (b0 / b1))]) (st' := [.int (b0 / b1)]) (v1 := v) (by decide +kernel) rfl trivial ?_
      exact sim_iret (by decide +kernel) rfl rfl rfl
    · refine sim_seg [(.iload_n 2, 0, 0, 0), (.iconst 1, 0, 0, 1), (.isub, 0, 0, 0)] [] (q := 20) (L' := [some (.int b0), some (.int b1), some (.int (b0 / b1))]) (st' := [.int ((b0 / b1) - (J 1))]) (v1 := v) (by decide +kernel) rfl trivial ?_
      exact sim_iret (by decide +kernel) rfl rfl rfl
  · refine sim_seg [(.iload_n 2, 0, 0, 0)] [] (q := 22) (L' := [some (.int b0), some (.int b1), some (.int (b0 / b1))]) (st' := [.int (b0 / b1)]) (v1 := v) (by decide +kernel) rfl trivial ?_
    exact sim_iret (by decide +kernel) rfl rfl rfl
def B_ma_floorMod : bd := (⟨"java/lang/Math", "floorMod", "(II)I"⟩, prog_21_method_50_code, 3, (some .int), [], 12, 0)
theorem m_ma_floorMod : mS B_ma_floorMod 2 := ⟨⟨⟨by decide +kernel, Or.inl rfl⟩, rfl, (List.mem_of_getElem? (i := 684) (by decide +kernel)), by decide +kernel, (List.mem_of_getElem? (i := 113) (by decide +kernel)), ⟨by decide, by decide⟩, by decide⟩, rfl, (by unfold nar; decide +kernel), (List.mem_of_getElem? (i := 683) (by decide +kernel))⟩
noncomputable def F_ma_floorMod (b0 : Int32) (b1 : Int32) (S : shp) (v : vl) : Option Int32 :=
  grd (¬ b1 = 0) <| (if (b0 ^^^ b1) < (J 0) then (if (b0 - b0 / b1 * b1) = (J 0) then some ((b0 - b0 / b1 * b1)) else some (((b0 - b0 / b1 * b1) + b1))) else some ((b0 - b0 / b1 * b1)))
theorem ok_ma_floorMod (b0 : Int32) (b1 : Int32) (S : shp) (v : vl) : SimK B_ma_floorMod 0 (entB (bN B_ma_floorMod) [.int b0, .int b1]) [] S v (F_ma_floorMod b0 b1 S v) (ρri S v) := by
  show SimK B_ma_floorMod 0 [some (.int b0), some (.int b1), none] [] S v (F_ma_floorMod b0 b1 S v) _
  unfold F_ma_floorMod
  refine sim_grd fun h1 => ?_
  refine sim_seg [(.iload_n 0, 0, 0, 0), (.iload_n 1, 0, 0, 0), (.irem, 0, 0, 0), (.istore_n 2, 0, 0, 0)] [] (q := 4) (L' := [some (.int b0), some (.int b1), some (.int (b0 - b0 / b1 * b1))]) (st' := []) (v1 := v) (by decide +kernel) rfl ⟨h1, trivial⟩ ?_
  refine sim_seg [(.iload_n 0, 0, 0, 0), (.iload_n 1, 0, 0, 0), (.ixor, 0, 0, 0)] [] (q := 7) (L' := [some (.int b0), some (.int b1), some (.int (b0 - b0 / b1 * b1))]) (st' := [.int (b0 ^^^ b1)]) (v1 := v) (by decide +kernel) rfl trivial ?_
  refine sim_ge0 (o := 11) (tg := 18) (f := 10) (by decide +kernel) rfl rfl (fun _ => ?_) (fun _ => ?_)
  · refine sim_seg [(.iload_n 2, 0, 0, 0)] [] (q := 11) (L' := [some (.int b0), some (.int b1), some (.int (b0 - b0 / b1 * b1))]) (st' := [.int (b0 - b0 / b1 * b1)]) (v1 := v) (by decide +kernel) rfl trivial ?_
    refine sim_eq0 (o := 7) (tg := 18) (f := 14) (by decide +kernel) rfl rfl (fun _ => ?_) (fun _ => ?_)
    · refine sim_seg [(.iload_n 2, 0, 0, 0)] [] (q := 19) (L' := [some (.int b0), some (.int b1), some (.int (b0 - b0 / b1 * b1))]) (st' := [.int (b0 - b0 / b1 * b1)]) (v1 := v) (by decide +kernel) rfl trivial ?_
      exact sim_iret (by decide +kernel) rfl rfl rfl
    · refine sim_seg [(.iload_n 2, 0, 0, 0), (.iload_n 1, 0, 0, 0), (.iadd, 0, 0, 0)] [] (q := 17) (L' := [some (.int b0), some (.int b1), some (.int (b0 - b0 / b1 * b1))]) (st' := [.int ((b0 - b0 / b1 * b1) + b1)]) (v1 := v) (by decide +kernel) rfl trivial ?_
      exact sim_iret (by decide +kernel) rfl rfl rfl
  · refine sim_seg [(.iload_n 2, 0, 0, 0)] [] (q := 19) (L' := [some (.int b0), some (.int b1), some (.int (b0 - b0 / b1 * b1))]) (st' := [.int (b0 - b0 / b1 * b1)]) (v1 := v) (by decide +kernel) rfl trivial ?_
    exact sim_iret (by decide +kernel) rfl rfl rfl
def B_ma_max : bd := (⟨"java/lang/Math", "max", "(II)I"⟩, prog_21_method_65_code, 2, (some .int), [], 12, 0)
theorem m_ma_max : mS B_ma_max 2 := ⟨⟨⟨by decide +kernel, Or.inl rfl⟩, rfl, (List.mem_of_getElem? (i := 697) (by decide +kernel)), by decide +kernel, (List.mem_of_getElem? (i := 113) (by decide +kernel)), ⟨by decide, by decide⟩, by decide⟩, rfl, (by unfold nar; decide +kernel), (List.mem_of_getElem? (i := 696) (by decide +kernel))⟩
noncomputable def F_ma_max (b0 : Int32) (b1 : Int32) (S : shp) (v : vl) : Option Int32 :=
  (if b0 < b1 then some (b1) else some (b0))
theorem ok_ma_max (b0 : Int32) (b1 : Int32) (S : shp) (v : vl) : SimK B_ma_max 0 (entB (bN B_ma_max) [.int b0, .int b1]) [] S v (F_ma_max b0 b1 S v) (ρri S v) := by
  show SimK B_ma_max 0 [some (.int b0), some (.int b1)] [] S v (F_ma_max b0 b1 S v) _
  unfold F_ma_max
  refine sim_seg [(.iload_n 0, 0, 0, 0), (.iload_n 1, 0, 0, 0)] [] (q := 2) (L' := [some (.int b0), some (.int b1)]) (st' := [.int b1, .int b0]) (v1 := v) (by decide +kernel) rfl trivial ?_
  refine sim_lt' (o := 7) (tg := 9) (f := 5) (by decide +kernel) rfl rfl (fun _ => ?_) (fun _ => ?_)
  · refine sim_seg [(.iload_n 1, 0, 0, 0)] [] (q := 10) (L' := [some (.int b0), some (.int b1)]) (st' := [.int b1]) (v1 := v) (by decide +kernel) rfl trivial ?_
    exact sim_iret (by decide +kernel) rfl rfl rfl
  · refine sim_seg [(.iload_n 0, 0, 0, 0), (.goto 4, 0, 0, 0)] [] (q := 10) (L' := [some (.int b0), some (.int b1)]) (st' := [.int b0]) (v1 := v) (by decide +kernel) rfl trivial ?_
    exact sim_iret (by decide +kernel) rfl rfl rfl
def B_ma_min : bd := (⟨"java/lang/Math", "min", "(II)I"⟩, prog_21_method_69_code, 2, (some .int), [], 12, 0)
theorem m_ma_min : mS B_ma_min 2 := ⟨⟨⟨by decide +kernel, Or.inl rfl⟩, rfl, (List.mem_of_getElem? (i := 694) (by decide +kernel)), by decide +kernel, (List.mem_of_getElem? (i := 113) (by decide +kernel)), ⟨by decide, by decide⟩, by decide⟩, rfl, (by unfold nar; decide +kernel), (List.mem_of_getElem? (i := 693) (by decide +kernel))⟩
noncomputable def F_ma_min (b0 : Int32) (b1 : Int32) (S : shp) (v : vl) : Option Int32 :=
  (if b1 < b0 then some (b1) else some (b0))
theorem ok_ma_min (b0 : Int32) (b1 : Int32) (S : shp) (v : vl) : SimK B_ma_min 0 (entB (bN B_ma_min) [.int b0, .int b1]) [] S v (F_ma_min b0 b1 S v) (ρri S v) := by
  show SimK B_ma_min 0 [some (.int b0), some (.int b1)] [] S v (F_ma_min b0 b1 S v) _
  unfold F_ma_min
  refine sim_seg [(.iload_n 0, 0, 0, 0), (.iload_n 1, 0, 0, 0)] [] (q := 2) (L' := [some (.int b0), some (.int b1)]) (st' := [.int b1, .int b0]) (v1 := v) (by decide +kernel) rfl trivial ?_
  refine sim_gt (o := 7) (tg := 9) (f := 5) (by decide +kernel) rfl rfl (fun _ => ?_) (fun _ => ?_)
  · refine sim_seg [(.iload_n 1, 0, 0, 0)] [] (q := 10) (L' := [some (.int b0), some (.int b1)]) (st' := [.int b1]) (v1 := v) (by decide +kernel) rfl trivial ?_
    exact sim_iret (by decide +kernel) rfl rfl rfl
  · refine sim_seg [(.iload_n 0, 0, 0, 0), (.goto 4, 0, 0, 0)] [] (q := 10) (L' := [some (.int b0), some (.int b1)]) (st' := [.int b0]) (v1 := v) (by decide +kernel) rfl trivial ?_
    exact sim_iret (by decide +kernel) rfl rfl rfl
def B_ma_abs : bd := (⟨"java/lang/Math", "abs", "(I)I"⟩, prog_21_method_59_code, 1, (some .int), [], 12, 0)
theorem m_ma_abs : mS B_ma_abs 1 := ⟨⟨⟨by decide +kernel, Or.inl rfl⟩, rfl, (List.mem_of_getElem? (i := 801) (by decide +kernel)), by decide +kernel, (List.mem_of_getElem? (i := 113) (by decide +kernel)), ⟨by decide, by decide⟩, by decide⟩, rfl, (by unfold nar; decide +kernel), (List.mem_of_getElem? (i := 800) (by decide +kernel))⟩
noncomputable def F_ma_abs (b0 : Int32) (S : shp) (v : vl) : Option Int32 :=
  (if b0 < (J 0) then some ((-b0)) else some (b0))
theorem ok_ma_abs (b0 : Int32) (S : shp) (v : vl) : SimK B_ma_abs 0 (entB (bN B_ma_abs) [.int b0]) [] S v (F_ma_abs b0 S v) (ρri S v) := by
  show SimK B_ma_abs 0 [some (.int b0)] [] S v (F_ma_abs b0 S v) _
  unfold F_ma_abs
  refine sim_seg [(.iload_n 0, 0, 0, 0)] [] (q := 1) (L' := [some (.int b0)]) (st' := [.int b0]) (v1 := v) (by decide +kernel) rfl trivial ?_
  refine sim_ge0 (o := 8) (tg := 9) (f := 4) (by decide +kernel) rfl rfl (fun _ => ?_) (fun _ => ?_)
  · refine sim_seg [(.iload_n 0, 0, 0, 0), (.ineg, 0, 0, 0), (.goto 4, 0, 0, 0)] [] (q := 10) (L' := [some (.int b0)]) (st' := [.int (-b0)]) (v1 := v) (by decide +kernel) rfl trivial ?_
    exact sim_iret (by decide +kernel) rfl rfl rfl
  · refine sim_seg [(.iload_n 0, 0, 0, 0)] [] (q := 10) (L' := [some (.int b0)]) (st' := [.int b0]) (v1 := v) (by decide +kernel) rfl trivial ?_
    exact sim_iret (by decide +kernel) rfl rfl rfl
