/-! Test. -/
def B_gc_isPrescale : bd := (⟨"GateCounter", "isPrescale", "(I)Z"⟩, prog_1_method_75_code, 5, (some .boolean), [], 5, 0)
theorem m_gc_isPrescale : mS B_gc_isPrescale 1 := ⟨⟨⟨by decide +kernel, Or.inl rfl⟩, rfl, (List.mem_of_getElem? (i := 542) (by decide +kernel)), by decide +kernel, (List.mem_of_getElem? (i := 95) (by decide +kernel)), ⟨by decide, by decide⟩, by decide⟩, rfl, (by unfold nar; decide +kernel), (List.mem_of_getElem? (i := 541) (by decide +kernel))⟩
noncomputable def Y_gc_isPrescale_9 (N : Nat)  (i9 : Int32 → Nat → Int32 → Int32 → Option Int32) (S : shp) (v : vl)  (p0 : Int32) (p1 : Nat) (p2 : Int32) (p3 : Int32) : Option Int32 :=
  (if p3 < p2 then grd (kin S p1 = some (11, 5)) <| grd (vp_in p3 (alen S p1)) <| (if p0 = (gi v p1 (Int32.toNatClampNeg p3)) then some ((J 1)) else i9 p0 p1 p2 (p3 + (J 1))) else some ((J 0)))
noncomputable def K_gc_isPrescale_9 (N : Nat)  (n : Nat) (S : shp) (v : vl) : Int32 → Nat → Int32 → Int32 → Option Int32 :=
  Nat.rec (motive := fun _ => Int32 → Nat → Int32 → Int32 → Option Int32) (fun _ _ _ _ => none) (fun _ i => Y_gc_isPrescale_9 N  i S v) n
theorem sY_gc_isPrescale_9 (N : Nat)  (i9 : Int32 → Nat → Int32 → Int32 → Option Int32) (S : shp) (v : vl)  (j9 : ∀ (e4 : Option Value) (p0 : Int32) (p1 : Nat) (p2 : Int32) (p3 : Int32), SimK B_gc_isPrescale 9 [some (.int p0), some (.ref p1), some (.int p2), some (.int p3), e4] [] S v (i9 p0 p1 p2 p3) (ρri S v)) (e4 : Option Value)  (p0 : Int32) (p1 : Nat) (p2 : Int32) (p3 : Int32) : SimK B_gc_isPrescale 9 [some (.int p0), some (.ref p1), some (.int p2), some (.int p3), e4] [] S v (Y_gc_isPrescale_9 N  i9 S v  p0 p1 p2 p3) (ρri S v) := by
  unfold Y_gc_isPrescale_9
  refine sim_seg [(.iload_n 3, 0, 0, 0), (.iload_n 2, 0, 0, 0)] [] (q := 11) (L' := [some (.int p0), some (.ref p1), some (.int p2), some (.int p3), e4]) (st' := [.int p2, .int p3]) (v1 := v) (by decide +kernel) rfl trivial ?_
  refine sim_ge (o := 22) (tg := 33) (f := 14) (by decide +kernel) rfl rfl (fun _ => ?_) (fun _ => ?_)
  · refine sim_grd fun h2 => ?_
    refine sim_grd fun h3 => ?_
    refine sim_seg [(.aload_n 1, 0, 0, 0), (.iload_n 3, 0, 0, 0), (.iaload, 0, 0, 0), (.istore 4, 0, 0, 0), (.iload_n 0, 0, 0, 0), (.iload 4, 0, 0, 0)] [] (q := 22) (L' := [some (.int p0), some (.ref p1), some (.int p2), some (.int p3), some (.int (gi v p1 (Int32.toNatClampNeg p3)))]) (st' := [.int (gi v p1 (Int32.toNatClampNeg p3)), .int p0]) (v1 := v) (by decide +kernel) rfl ⟨⟨(Or.inr (kin_alen h2)), h3⟩, trivial⟩ ?_
    refine sim_ne (o := 5) (tg := 27) (f := 25) (by decide +kernel) rfl rfl (fun _ => ?_) (fun _ => ?_)
    · refine sim_seg [(.iconst 1, 0, 0, 1)] [] (q := 26) (L' := [some (.int p0), some (.ref p1), some (.int p2), some (.int p3), some (.int (gi v p1 (Int32.toNatClampNeg p3)))]) (st' := [.int (J 1)]) (v1 := v) (by decide +kernel) rfl trivial ?_
      exact sim_iret (by decide +kernel) rfl (by decide) rfl
    · refine sim_seg [(.iinc 3 1, 0, 0, 1), (.goto (-21), 0, 0, 0)] [] (q := 9) (L' := [some (.int p0), some (.ref p1), some (.int p2), some (.int (p3 + (J 1))), some (.int (gi v p1 (Int32.toNatClampNeg p3)))]) (st' := []) (v1 := v) (by decide +kernel) rfl trivial ?_
      exact j9 _ p0 p1 p2 (p3 + (J 1))
  · refine sim_seg [(.iconst 0, 0, 0, 0)] [] (q := 34) (L' := [some (.int p0), some (.ref p1), some (.int p2), some (.int p3), e4]) (st' := [.int (J 0)]) (v1 := v) (by decide +kernel) rfl trivial ?_
    exact sim_iret (by decide +kernel) rfl (by decide) rfl
theorem sR_gc_isPrescale_9 (N : Nat)  (S : shp) (v : vl)  (n : Nat) : ∀ (e4 : Option Value)  (p0 : Int32) (p1 : Nat) (p2 : Int32) (p3 : Int32), SimK B_gc_isPrescale 9 [some (.int p0), some (.ref p1), some (.int p2), some (.int p3), e4] [] S v (K_gc_isPrescale_9 N  n S v  p0 p1 p2 p3) (ρri S v) := by
  induction n with
  | zero => intro e4 p0 p1 p2 p3; exact sim_none
  | succ k ih => intro e4 p0 p1 p2 p3; exact sY_gc_isPrescale_9 N   _ S v  ih e4 p0 p1 p2 p3
theorem sK_gc_isPrescale_9 (N : Nat)  (n : Nat) (e4 : Option Value) (S : shp) (v : vl) (p0 : Int32) (p1 : Nat) (p2 : Int32) (p3 : Int32) : SimK B_gc_isPrescale 9 [some (.int p0), some (.ref p1), some (.int p2), some (.int p3), e4] [] S v (K_gc_isPrescale_9 N  n S v  p0 p1 p2 p3) (ρri S v) := sR_gc_isPrescale_9 N   S v  n e4 p0 p1 p2 p3
noncomputable def F_gc_isPrescale (N : Nat) (x0 : Int32) (S : shp) (v : vl) : Option Int32 :=
  grd (kin S (kad S 0) = some (11, 5)) <| K_gc_isPrescale_9 N  N S v x0 (kad S 0) (nI (alen S (kad S 0))) (J 0)
theorem ok_gc_isPrescale (N : Nat) (x0 : Int32) (S : shp) (v : vl) : SimK B_gc_isPrescale 0 (entB (bN B_gc_isPrescale) [.int x0]) [] S v (F_gc_isPrescale N x0 S v) (ρri S v) := by
  show SimK B_gc_isPrescale 0 [some (.int x0), none, none, none, none] [] S v (F_gc_isPrescale N x0 S v) _
  unfold F_gc_isPrescale
  refine sim_gets (idx := 262) (m := 0) (pc3 := 3) (by decide) (by decide +kernel) (List.mem_of_getElem? (i := 543) (by decide +kernel)) rfl ?_
  show SimK _ _ _ ([.ref (kad S 0)]) _ _ _ _
  refine sim_grd fun h1 => ?_
  refine sim_seg [(.astore_n 1, 0, 0, 0), (.aload_n 1, 0, 0, 0), (.arraylength, 0, 0, 0), (.istore_n 2, 0, 0, 0), (.iconst 0, 0, 0, 0), (.istore_n 3, 0, 0, 0)] [] (q := 9) (L' := [some (.int x0), some (.ref (kad S 0)), some (.int (nI (alen S (kad S 0)))), some (.int (J 0)), none]) (st' := []) (v1 := v) (by decide +kernel) rfl ⟨⟨_, _, h1, by decide⟩, trivial⟩ ?_
  exact sK_gc_isPrescale_9 N N _ S v x0 (kad S 0) (nI (alen S (kad S 0))) (J 0)
def B_gc_errorCode : bd := (⟨"GateCounter", "errorCode", "()I"⟩, prog_1_method_5_code, 1, (some .int), [], 5, 0)
theorem m_gc_errorCode : mV B_gc_errorCode 5 0 := ⟨⟨⟨by decide +kernel, Or.inl rfl⟩, rfl, (List.mem_of_getElem? (i := 588) (by decide +kernel)), by decide +kernel, (List.mem_of_getElem? (i := 95) (by decide +kernel)), ⟨by decide, by decide⟩, by decide⟩, rfl, (by unfold nar; decide +kernel), (List.mem_of_getElem? (i := 586) (by decide +kernel)), rfl, (List.mem_of_getElem? (i := 587) (by decide +kernel))⟩
noncomputable def F_gc_errorCode (a0 : Nat) (S : shp) (v : vl) : Option Int32 :=
  grd (kin S a0 = some (0, 5)) <| (gr S a0 0).bind fun r2 => grd (kin S r2 = some (0, 2)) <| some ((gi v r2 2))
theorem ok_gc_errorCode (a0 : Nat) (S : shp) (v : vl) : SimK B_gc_errorCode 0 (entB (bN B_gc_errorCode) [.ref a0]) [] S v (F_gc_errorCode a0 S v) (ρri S v) := by
  show SimK B_gc_errorCode 0 [some (.ref a0)] [] S v (F_gc_errorCode a0 S v) _
  unfold F_gc_errorCode
  refine sim_grd fun h1 => ?_
  refine sim_bind fun r2 h3 => ?_
  refine sim_grd fun h4 => ?_
  refine sim_seg [(.aload_n 0, 0, 0, 0), (.getfield 10, 5, 0, 0), (.getfield 78, 2, 2, 0)] [r2] (q := 7) (L' := [some (.ref a0)]) (st' := [.int (gi v r2 2)]) (v1 := v) (by decide +kernel) rfl ⟨⟨h1, h3⟩, h4, trivial⟩ ?_
  exact sim_iret (by decide +kernel) rfl rfl rfl
def B_ma_max : bd := (⟨"java/lang/Math", "max", "(II)I"⟩, prog_21_method_65_code, 2, (some .int), [], 12, 0)
theorem m_ma_max : mS B_ma_max 2 := ⟨⟨⟨by decide +kernel, Or.inl rfl⟩, rfl, (List.mem_of_getElem? (i := 697) (by decide +kernel)), by decide +kernel, (List.mem_of_getElem? (i := 113) (by decide +kernel)), ⟨by decide, by decide⟩, by decide⟩, rfl, (by unfold nar; decide +kernel), (List.mem_of_getElem? (i := 696) (by decide +kernel))⟩
noncomputable def F_ma_max (x0 : Int32) (x1 : Int32) (S : shp) (v : vl) : Option Int32 :=
  (if x0 < x1 then some (x1) else some (x0))
theorem ok_ma_max (x0 : Int32) (x1 : Int32) (S : shp) (v : vl) : SimK B_ma_max 0 (entB (bN B_ma_max) [.int x0, .int x1]) [] S v (F_ma_max x0 x1 S v) (ρri S v) := by
  show SimK B_ma_max 0 [some (.int x0), some (.int x1)] [] S v (F_ma_max x0 x1 S v) _
  unfold F_ma_max
  refine sim_seg [(.iload_n 0, 0, 0, 0), (.iload_n 1, 0, 0, 0)] [] (q := 2) (L' := [some (.int x0), some (.int x1)]) (st' := [.int x1, .int x0]) (v1 := v) (by decide +kernel) rfl trivial ?_
  refine sim_lt' (o := 7) (tg := 9) (f := 5) (by decide +kernel) rfl rfl (fun _ => ?_) (fun _ => ?_)
  · refine sim_seg [(.iload_n 1, 0, 0, 0)] [] (q := 10) (L' := [some (.int x0), some (.int x1)]) (st' := [.int x1]) (v1 := v) (by decide +kernel) rfl trivial ?_
    exact sim_iret (by decide +kernel) rfl rfl rfl
  · refine sim_seg [(.iload_n 0, 0, 0, 0), (.goto 4, 0, 0, 0)] [] (q := 10) (L' := [some (.int x0), some (.int x1)]) (st' := [.int x0]) (v1 := v) (by decide +kernel) rfl trivial ?_
    exact sim_iret (by decide +kernel) rfl rfl rfl
def B_ma_min : bd := (⟨"java/lang/Math", "min", "(II)I"⟩, prog_21_method_69_code, 2, (some .int), [], 12, 0)
theorem m_ma_min : mS B_ma_min 2 := ⟨⟨⟨by decide +kernel, Or.inl rfl⟩, rfl, (List.mem_of_getElem? (i := 694) (by decide +kernel)), by decide +kernel, (List.mem_of_getElem? (i := 113) (by decide +kernel)), ⟨by decide, by decide⟩, by decide⟩, rfl, (by unfold nar; decide +kernel), (List.mem_of_getElem? (i := 693) (by decide +kernel))⟩
noncomputable def F_ma_min (x0 : Int32) (x1 : Int32) (S : shp) (v : vl) : Option Int32 :=
  (if x1 < x0 then some (x1) else some (x0))
theorem ok_ma_min (x0 : Int32) (x1 : Int32) (S : shp) (v : vl) : SimK B_ma_min 0 (entB (bN B_ma_min) [.int x0, .int x1]) [] S v (F_ma_min x0 x1 S v) (ρri S v) := by
  show SimK B_ma_min 0 [some (.int x0), some (.int x1)] [] S v (F_ma_min x0 x1 S v) _
  unfold F_ma_min
  refine sim_seg [(.iload_n 0, 0, 0, 0), (.iload_n 1, 0, 0, 0)] [] (q := 2) (L' := [some (.int x0), some (.int x1)]) (st' := [.int x1, .int x0]) (v1 := v) (by decide +kernel) rfl trivial ?_
  refine sim_gt (o := 7) (tg := 9) (f := 5) (by decide +kernel) rfl rfl (fun _ => ?_) (fun _ => ?_)
  · refine sim_seg [(.iload_n 1, 0, 0, 0)] [] (q := 10) (L' := [some (.int x0), some (.int x1)]) (st' := [.int x1]) (v1 := v) (by decide +kernel) rfl trivial ?_
    exact sim_iret (by decide +kernel) rfl rfl rfl
  · refine sim_seg [(.iload_n 0, 0, 0, 0), (.goto 4, 0, 0, 0)] [] (q := 10) (L' := [some (.int x0), some (.int x1)]) (st' := [.int x0]) (v1 := v) (by decide +kernel) rfl trivial ?_
    exact sim_iret (by decide +kernel) rfl rfl rfl
def B_gc_withinOff : bd := (⟨"GateCounter", "withinOff", "(I)I"⟩, prog_1_method_77_code, 1, (some .int), [], 5, 1)
theorem m_gc_withinOff : mS B_gc_withinOff 1 := ⟨⟨⟨by decide +kernel, Or.inl rfl⟩, rfl, (List.mem_of_getElem? (i := 691) (by decide +kernel)), by decide +kernel, (List.mem_of_getElem? (i := 95) (by decide +kernel)), ⟨by decide, by decide⟩, by decide⟩, rfl, (by unfold nar; decide +kernel), (List.mem_of_getElem? (i := 690) (by decide +kernel))⟩
noncomputable def F_gc_withinOff (x0 : Int32) (S : shp) (v : vl) : Option Int32 :=
  (F_ma_min (J 99) x0 S v).bind fun x1 => (F_ma_max (J (-99)) x1 S v).bind fun x2 => some (x2)
theorem ok_gc_withinOff (x0 : Int32) (S : shp) (v : vl) : SimK B_gc_withinOff 0 (entB (bN B_gc_withinOff) [.int x0]) [] S v (F_gc_withinOff x0 S v) (ρri S v) := by
  show SimK B_gc_withinOff 0 [some (.int x0)] [] S v (F_gc_withinOff x0 S v) _
  unfold F_gc_withinOff
  refine sim_seg [(.bipush (-99), 0, 0, (-99)), (.bipush 99, 0, 0, 99), (.iload_n 0, 0, 0, 0)] [] (q := 5) (L' := [some (.int x0)]) (st' := [.int x0, .int (J 99), .int (J (-99))]) (v1 := v) (by decide +kernel) rfl trivial ?_
  refine sc_ri (pc3 := 8) (cf_S (idx := 220) [.int (J 99), .int x0] m_ma_min ⟨by decide, by decide⟩ (List.mem_of_getElem? (i := 692) (by decide +kernel)) rfl (Nat.le_of_ble_eq_true rfl) (by decide +kernel) (Nat.le_of_ble_eq_true rfl) rfl) (ok_ma_min (J 99) x0 S v) rfl (fun x1 => ?_)
  refine sc_ri (pc3 := 11) (cf_S (idx := 226) [.int (J (-99)), .int x1] m_ma_max ⟨by decide, by decide⟩ (List.mem_of_getElem? (i := 695) (by decide +kernel)) rfl (Nat.le_of_ble_eq_true rfl) (by decide +kernel) (Nat.le_of_ble_eq_true rfl) rfl) (ok_ma_max (J (-99)) x1 S v) rfl (fun x2 => ?_)
  exact sim_iret (by decide +kernel) rfl rfl rfl
def B_ma_floorDiv : bd := (⟨"java/lang/Math", "floorDiv", "(II)I"⟩, prog_21_method_47_code, 3, (some .int), [], 12, 0)
theorem m_ma_floorDiv : mS B_ma_floorDiv 2 := ⟨⟨⟨by decide +kernel, Or.inl rfl⟩, rfl, (List.mem_of_getElem? (i := 673) (by decide +kernel)), by decide +kernel, (List.mem_of_getElem? (i := 113) (by decide +kernel)), ⟨by decide, by decide⟩, by decide⟩, rfl, (by unfold nar; decide +kernel), (List.mem_of_getElem? (i := 672) (by decide +kernel))⟩
noncomputable def F_ma_floorDiv (x0 : Int32) (x1 : Int32) (S : shp) (v : vl) : Option Int32 :=
  grd (¬ x1 = 0) <| (if (x0 ^^^ x1) < (J 0) then (if ((x0 / x1) * x1) = x0 then some ((x0 / x1)) else some (((x0 / x1) - (J 1)))) else some ((x0 / x1)))
theorem ok_ma_floorDiv (x0 : Int32) (x1 : Int32) (S : shp) (v : vl) : SimK B_ma_floorDiv 0 (entB (bN B_ma_floorDiv) [.int x0, .int x1]) [] S v (F_ma_floorDiv x0 x1 S v) (ρri S v) := by
  show SimK B_ma_floorDiv 0 [some (.int x0), some (.int x1), none] [] S v (F_ma_floorDiv x0 x1 S v) _
  unfold F_ma_floorDiv
  refine sim_grd fun h1 => ?_
  refine sim_seg [(.iload_n 0, 0, 0, 0), (.iload_n 1, 0, 0, 0), (.idiv, 0, 0, 0), (.istore_n 2, 0, 0, 0), (.iload_n 0, 0, 0, 0), (.iload_n 1, 0, 0, 0), (.ixor, 0, 0, 0)] [] (q := 7) (L' := [some (.int x0), some (.int x1), some (.int (x0 / x1))]) (st' := [.int (x0 ^^^ x1)]) (v1 := v) (by decide +kernel) rfl ⟨h1, trivial⟩ ?_
  refine sim_ge0 (o := 14) (tg := 21) (f := 10) (by decide +kernel) rfl rfl (fun _ => ?_) (fun _ => ?_)
  · refine sim_seg [(.iload_n 2, 0, 0, 0), (.iload_n 1, 0, 0, 0), (.imul, 0, 0, 0), (.iload_n 0, 0, 0, 0)] [] (q := 14) (L' := [some (.int x0), some (.int x1), some (.int (x0 / x1))]) (st' := [.int x0, .int ((x0 / x1) * x1)]) (v1 := v) (by decide +kernel) rfl trivial ?_
    refine sim_eq (o := 7) (tg := 21) (f := 17) (by decide +kernel) rfl rfl (fun _ => ?_) (fun _ => ?_)
    · refine sim_seg [(.iload_n 2, 0, 0, 0)] [] (q := 22) (L' := [some (.int x0), some (.int x1), some (.int (x0 / x1))]) (st' := [.int (x0 / x1)]) (v1 := v) (by decide +kernel) rfl trivial ?_
      exact sim_iret (by decide +kernel) rfl rfl rfl
    · refine sim_seg [(.iload_n 2, 0, 0, 0), (.iconst 1, 0, 0, 1), (.isub, 0, 0, 0)] [] (q := 20) (L' := [some (.int x0), some (.int x1), some (.int (x0 / x1))]) (st' := [.int ((x0 / x1) - (J 1))]) (v1 := v) (by decide +kernel) rfl trivial ?_
      exact sim_iret (by decide +kernel) rfl rfl rfl
  · refine sim_seg [(.iload_n 2, 0, 0, 0)] [] (q := 22) (L' := [some (.int x0), some (.int x1), some (.int (x0 / x1))]) (st' := [.int (x0 / x1)]) (v1 := v) (by decide +kernel) rfl trivial ?_
    exact sim_iret (by decide +kernel) rfl rfl rfl
def B_ma_floorMod : bd := (⟨"java/lang/Math", "floorMod", "(II)I"⟩, prog_21_method_50_code, 3, (some .int), [], 12, 0)
theorem m_ma_floorMod : mS B_ma_floorMod 2 := ⟨⟨⟨by decide +kernel, Or.inl rfl⟩, rfl, (List.mem_of_getElem? (i := 684) (by decide +kernel)), by decide +kernel, (List.mem_of_getElem? (i := 113) (by decide +kernel)), ⟨by decide, by decide⟩, by decide⟩, rfl, (by unfold nar; decide +kernel), (List.mem_of_getElem? (i := 683) (by decide +kernel))⟩
noncomputable def F_ma_floorMod (x0 : Int32) (x1 : Int32) (S : shp) (v : vl) : Option Int32 :=
  grd (¬ x1 = 0) <| (if (x0 ^^^ x1) < (J 0) then (if (x0 - x0 / x1 * x1) = (J 0) then some ((x0 - x0 / x1 * x1)) else some (((x0 - x0 / x1 * x1) + x1))) else some ((x0 - x0 / x1 * x1)))
theorem ok_ma_floorMod (x0 : Int32) (x1 : Int32) (S : shp) (v : vl) : SimK B_ma_floorMod 0 (entB (bN B_ma_floorMod) [.int x0, .int x1]) [] S v (F_ma_floorMod x0 x1 S v) (ρri S v) := by
  show SimK B_ma_floorMod 0 [some (.int x0), some (.int x1), none] [] S v (F_ma_floorMod x0 x1 S v) _
  unfold F_ma_floorMod
  refine sim_grd fun h1 => ?_
  refine sim_seg [(.iload_n 0, 0, 0, 0), (.iload_n 1, 0, 0, 0), (.irem, 0, 0, 0), (.istore_n 2, 0, 0, 0), (.iload_n 0, 0, 0, 0), (.iload_n 1, 0, 0, 0), (.ixor, 0, 0, 0)] [] (q := 7) (L' := [some (.int x0), some (.int x1), some (.int (x0 - x0 / x1 * x1))]) (st' := [.int (x0 ^^^ x1)]) (v1 := v) (by decide +kernel) rfl ⟨h1, trivial⟩ ?_
  refine sim_ge0 (o := 11) (tg := 18) (f := 10) (by decide +kernel) rfl rfl (fun _ => ?_) (fun _ => ?_)
  · refine sim_seg [(.iload_n 2, 0, 0, 0)] [] (q := 11) (L' := [some (.int x0), some (.int x1), some (.int (x0 - x0 / x1 * x1))]) (st' := [.int (x0 - x0 / x1 * x1)]) (v1 := v) (by decide +kernel) rfl trivial ?_
    refine sim_eq0 (o := 7) (tg := 18) (f := 14) (by decide +kernel) rfl rfl (fun _ => ?_) (fun _ => ?_)
    · refine sim_seg [(.iload_n 2, 0, 0, 0)] [] (q := 19) (L' := [some (.int x0), some (.int x1), some (.int (x0 - x0 / x1 * x1))]) (st' := [.int (x0 - x0 / x1 * x1)]) (v1 := v) (by decide +kernel) rfl trivial ?_
      exact sim_iret (by decide +kernel) rfl rfl rfl
    · refine sim_seg [(.iload_n 2, 0, 0, 0), (.iload_n 1, 0, 0, 0), (.iadd, 0, 0, 0)] [] (q := 17) (L' := [some (.int x0), some (.int x1), some (.int (x0 - x0 / x1 * x1))]) (st' := [.int ((x0 - x0 / x1 * x1) + x1)]) (v1 := v) (by decide +kernel) rfl trivial ?_
      exact sim_iret (by decide +kernel) rfl rfl rfl
  · refine sim_seg [(.iload_n 2, 0, 0, 0)] [] (q := 19) (L' := [some (.int x0), some (.int x1), some (.int (x0 - x0 / x1 * x1))]) (st' := [.int (x0 - x0 / x1 * x1)]) (v1 := v) (by decide +kernel) rfl trivial ?_
    exact sim_iret (by decide +kernel) rfl rfl rfl
def B_ck_move : bd := (⟨"GateCounter$Clock", "move", "(I)V"⟩, prog_2_method_6_code, 3, none, [], 0, 1)
theorem m_ck_move : mV B_ck_move 0 1 := ⟨⟨⟨by decide +kernel, Or.inl rfl⟩, rfl, (List.mem_of_getElem? (i := 681) (by decide +kernel)), by decide +kernel, (List.mem_of_getElem? (i := 98) (by decide +kernel)), ⟨by decide, by decide⟩, by decide⟩, rfl, (by unfold nar; decide +kernel), (List.mem_of_getElem? (i := 680) (by decide +kernel)), rfl, (List.mem_of_getElem? (i := 20) (by decide +kernel))⟩
noncomputable def F_ck_move (a0 : Nat) (x1 : Int32) (S : shp) (v : vl) : Option vl :=
  grd (kin S a0 = some (0, 0)) <| lt ((gi v a0 3) + (x1 * (gi v a0 1))) fun x2 => (F_ma_floorDiv x2 (J 1000) S v).bind fun x3 => lt (si v a0 4 ((gi v a0 4) + ((x1 * (gi v a0 0)) + x3))) fun w4 => (F_ma_floorMod x2 (J 1000) S w4).bind fun x5 => lt (si w4 a0 3 x5) fun w6 => some (w6)
theorem ok_ck_move (a0 : Nat) (x1 : Int32) (S : shp) (v : vl) : SimK B_ck_move 0 (entB (bN B_ck_move) [.ref a0, .int x1]) [] S v (F_ck_move a0 x1 S v) (ρpv S) := by
  show SimK B_ck_move 0 [some (.ref a0), some (.int x1), none] [] S v (F_ck_move a0 x1 S v) _
  unfold F_ck_move
  refine sim_grd fun h1 => ?_
  refine sim_seg [(.aload_n 0, 0, 0, 0), (.getfield 21, 0, 3, 0), (.iload_n 1, 0, 0, 0), (.aload_n 0, 0, 0, 0), (.getfield 15, 0, 1, 0), (.imul, 0, 0, 0), (.iadd, 0, 0, 0), (.istore_n 2, 0, 0, 0), (.aload_n 0, 0, 0, 0), (.dup, 0, 0, 0), (.getfield 24, 0, 4, 0), (.iload_n 1, 0, 0, 0)] [] (q := 18) (L' := [some (.ref a0), some (.int x1), some (.int ((gi v a0 3) + (x1 * (gi v a0 1))))]) (st' := [.int x1, .int (gi v a0 4), .ref a0]) (v1 := v) (by decide +kernel) rfl ⟨h1, h1, h1, trivial⟩ ?_
  refine sim_nm ((gi v a0 3) + (x1 * (gi v a0 1))) (fun x2 => [some (.ref a0), some (.int x1), some (.int x2)]) (fun x2 => [.int x1, .int (gi v a0 4), .ref a0]) (fun x2 => ?_) rfl rfl
  refine sim_seg [(.aload_n 0, 0, 0, 0), (.getfield 11, 0, 0, 0), (.imul, 0, 0, 0), (.iload_n 2, 0, 0, 0), (.sipush 1000, 0, 0, 1000)] [] (q := 27) (L' := [some (.ref a0), some (.int x1), some (.int x2)]) (st' := [.int (J 1000), .int x2, .int (x1 * (gi v a0 0)), .int (gi v a0 4), .ref a0]) (v1 := v) (by decide +kernel) rfl ⟨h1, trivial⟩ ?_
  refine sc_ri (pc3 := 30) (cf_S (idx := 41) [.int x2, .int (J 1000)] m_ma_floorDiv ⟨by decide, by decide⟩ (List.mem_of_getElem? (i := 671) (by decide +kernel)) rfl (Nat.le_of_ble_eq_true rfl) (by decide +kernel) (Nat.le_of_ble_eq_true rfl) rfl) (ok_ma_floorDiv x2 (J 1000) S v) rfl (fun x3 => ?_)
  refine sim_seg [(.iadd, 0, 0, 0), (.iadd, 0, 0, 0), (.putfield 24, 0, 4, 0), (.aload_n 0, 0, 0, 0), (.iload_n 2, 0, 0, 0), (.sipush 1000, 0, 0, 1000)] [] (q := 40) (L' := [some (.ref a0), some (.int x1), some (.int x2)]) (st' := [.int (J 1000), .int x2, .ref a0]) (v1 := (si v a0 4 ((gi v a0 4) + ((x1 * (gi v a0 0)) + x3)))) (by decide +kernel) rfl ⟨h1, trivial⟩ ?_
  refine sim_lt (x := (si v a0 4 ((gi v a0 4) + ((x1 * (gi v a0 0)) + x3)))) ?_
  generalize (si v a0 4 ((gi v a0 4) + ((x1 * (gi v a0 0)) + x3))) = w4
  refine sc_ri (pc3 := 43) (cf_S (idx := 47) [.int x2, .int (J 1000)] m_ma_floorMod ⟨by decide, by decide⟩ (List.mem_of_getElem? (i := 682) (by decide +kernel)) rfl (Nat.le_of_ble_eq_true rfl) (by decide +kernel) (Nat.le_of_ble_eq_true rfl) rfl) (ok_ma_floorMod x2 (J 1000) S w4) rfl (fun x5 => ?_)
  refine sim_seg [(.putfield 21, 0, 3, 0)] [] (q := 46) (L' := [some (.ref a0), some (.int x1), some (.int x2)]) (st' := []) (v1 := (si w4 a0 3 x5)) (by decide +kernel) rfl ⟨h1, trivial⟩ ?_
  refine sim_lt (x := (si w4 a0 3 x5)) ?_
  generalize (si w4 a0 3 x5) = w6
  exact sim_vret (by decide +kernel) rfl rfl
def B_ck_tick : bd := (⟨"GateCounter$Clock", "tick", "()V"⟩, prog_2_method_5_code, 1, none, [], 0, 2)
theorem m_ck_tick : mV B_ck_tick 0 0 := ⟨⟨⟨by decide +kernel, Or.inl rfl⟩, rfl, (List.mem_of_getElem? (i := 688) (by decide +kernel)), by decide +kernel, (List.mem_of_getElem? (i := 98) (by decide +kernel)), ⟨by decide, by decide⟩, by decide⟩, rfl, (by unfold nar; decide +kernel), (List.mem_of_getElem? (i := 686) (by decide +kernel)), rfl, (List.mem_of_getElem? (i := 687) (by decide +kernel))⟩
noncomputable def F_ck_tick (a0 : Nat) (S : shp) (v : vl) : Option vl :=
  grd (kin S a0 = some (0, 0)) <| lt (si (si v a0 5 ((gi v a0 5) + (J 1))) a0 6 (gi (si v a0 5 ((gi v a0 5) + (J 1))) a0 4)) fun w2 => (if ((gi w2 a0 5) - (gi w2 a0 5) / (J 100) * (J 100)) = (J 0) then (F_gc_withinOff ((gi w2 a0 1) + (gi w2 a0 2)) S w2).bind fun x3 => lt (si w2 a0 1 x3) fun w4 => (F_ck_move a0 (J 1) S w4).bind fun w5 => some (w5) else (F_ck_move a0 (J 1) S w2).bind fun w6 => some (w6))
theorem ok_ck_tick (a0 : Nat) (S : shp) (v : vl) : SimK B_ck_tick 0 (entB (bN B_ck_tick) [.ref a0]) [] S v (F_ck_tick a0 S v) (ρpv S) := by
  show SimK B_ck_tick 0 [some (.ref a0)] [] S v (F_ck_tick a0 S v) _
  unfold F_ck_tick
  refine sim_grd fun h1 => ?_
  refine sim_seg [(.aload_n 0, 0, 0, 0), (.dup, 0, 0, 0), (.getfield 27, 0, 5, 0), (.iconst 1, 0, 0, 1), (.iadd, 0, 0, 0), (.putfield 27, 0, 5, 0), (.aload_n 0, 0, 0, 0), (.aload_n 0, 0, 0, 0), (.getfield 24, 0, 4, 0), (.putfield 30, 0, 6, 0), (.aload_n 0, 0, 0, 0), (.getfield 27, 0, 5, 0)] [] (q := 22) (L' := [some (.ref a0)]) (st' := [.int (gi (si (si v a0 5 ((gi v a0 5) + (J 1))) a0 6 (gi (si v a0 5 ((gi v a0 5) + (J 1))) a0 4)) a0 5)]) (v1 := (si (si v a0 5 ((gi v a0 5) + (J 1))) a0 6 (gi (si v a0 5 ((gi v a0 5) + (J 1))) a0 4))) (by decide +kernel) rfl ⟨h1, h1, h1, h1, h1, trivial⟩ ?_
  refine sim_lt (x := (si (si v a0 5 ((gi v a0 5) + (J 1))) a0 6 (gi (si v a0 5 ((gi v a0 5) + (J 1))) a0 4))) ?_
  generalize (si (si v a0 5 ((gi v a0 5) + (J 1))) a0 6 (gi (si v a0 5 ((gi v a0 5) + (J 1))) a0 4)) = w2
  refine sim_seg [(.bipush 100, 0, 0, 100), (.irem, 0, 0, 0)] [] (q := 25) (L' := [some (.ref a0)]) (st' := [.int ((gi w2 a0 5) - (gi w2 a0 5) / (J 100) * (J 100))]) (v1 := w2) (by decide +kernel) rfl ⟨(by decide), trivial⟩ ?_
  refine sim_ne0 (o := 19) (tg := 44) (f := 28) (by decide +kernel) rfl rfl (fun _ => ?_) (fun _ => ?_)
  · refine sim_seg [(.aload_n 0, 0, 0, 0), (.aload_n 0, 0, 0, 0), (.getfield 15, 0, 1, 0), (.aload_n 0, 0, 0, 0), (.getfield 18, 0, 2, 0), (.iadd, 0, 0, 0)] [] (q := 38) (L' := [some (.ref a0)]) (st' := [.int ((gi w2 a0 1) + (gi w2 a0 2)), .ref a0]) (v1 := w2) (by decide +kernel) rfl ⟨h1, h1, trivial⟩ ?_
    refine sc_ri (pc3 := 41) (cf_SN (idx := 33) (host := "GateCounter") [.int ((gi w2 a0 1) + (gi w2 a0 2))] m_gc_withinOff ⟨by decide, by decide⟩ (by decide +kernel) rfl (Nat.le_of_ble_eq_true rfl) (by decide +kernel) (Nat.le_of_ble_eq_true rfl) rfl) (ok_gc_withinOff ((gi w2 a0 1) + (gi w2 a0 2)) S w2) rfl (fun x3 => ?_)
    refine sim_seg [(.putfield 15, 0, 1, 0), (.aload_n 0, 0, 0, 0), (.iconst 1, 0, 0, 1)] [] (q := 46) (L' := [some (.ref a0)]) (st' := [.int (J 1), .ref a0]) (v1 := (si w2 a0 1 x3)) (by decide +kernel) rfl ⟨h1, trivial⟩ ?_
    refine sim_lt (x := (si w2 a0 1 x3)) ?_
    generalize (si w2 a0 1 x3) = w4
    refine sc_pv (pc3 := 49) (cf_V (idx := 37) (ci := 0) [.int (J 1)] m_ck_move (by decide) ⟨by decide, by decide⟩ (List.mem_of_getElem? (i := 678) (by decide +kernel)) rfl (Nat.le_of_ble_eq_true rfl) h1 (by decide +kernel) (Nat.le_of_ble_eq_true rfl) rfl) (ok_ck_move a0 (J 1) S w4) rfl (fun w5 => ?_)
    exact sim_vret (by decide +kernel) rfl rfl
  · refine sim_seg [(.aload_n 0, 0, 0, 0), (.iconst 1, 0, 0, 1)] [] (q := 46) (L' := [some (.ref a0)]) (st' := [.int (J 1), .ref a0]) (v1 := w2) (by decide +kernel) rfl trivial ?_
    refine sc_pv (pc3 := 49) (cf_V (idx := 37) (ci := 0) [.int (J 1)] m_ck_move (by decide) ⟨by decide, by decide⟩ (List.mem_of_getElem? (i := 678) (by decide +kernel)) rfl (Nat.le_of_ble_eq_true rfl) h1 (by decide +kernel) (Nat.le_of_ble_eq_true rfl) rfl) (ok_ck_move a0 (J 1) S w2) rfl (fun w6 => ?_)
    exact sim_vret (by decide +kernel) rfl rfl
def B_sg_edgesUpTo : bd := (⟨"GateCounter$Signal", "edgesUpTo", "(III)I"⟩, prog_5_method_13_code, 3, (some .int), [], 3, 0)
theorem m_sg_edgesUpTo : mS B_sg_edgesUpTo 3 := ⟨⟨⟨by decide +kernel, Or.inl rfl⟩, rfl, (List.mem_of_getElem? (i := 627) (by decide +kernel)), by decide +kernel, (List.mem_of_getElem? (i := 99) (by decide +kernel)), ⟨by decide, by decide⟩, by decide⟩, rfl, (by unfold nar; decide +kernel), (List.mem_of_getElem? (i := 626) (by decide +kernel))⟩
noncomputable def F_sg_edgesUpTo (x0 : Int32) (x1 : Int32) (x2 : Int32) (S : shp) (v : vl) : Option Int32 :=
  (if x1 = (J (-1)) then some ((J 0)) else (if x0 < x1 then some ((J 0)) else (if (J 0) < x2 then grd (¬ x2 = 0) <| some ((((x0 - x1) / x2) + (J 1))) else some ((J 0)))))
theorem ok_sg_edgesUpTo (x0 : Int32) (x1 : Int32) (x2 : Int32) (S : shp) (v : vl) : SimK B_sg_edgesUpTo 0 (entB (bN B_sg_edgesUpTo) [.int x0, .int x1, .int x2]) [] S v (F_sg_edgesUpTo x0 x1 x2 S v) (ρri S v) := by
  show SimK B_sg_edgesUpTo 0 [some (.int x0), some (.int x1), some (.int x2)] [] S v (F_sg_edgesUpTo x0 x1 x2 S v) _
  unfold F_sg_edgesUpTo
  refine sim_seg [(.iload_n 1, 0, 0, 0), (.iconst (-1), 0, 0, (-1))] [] (q := 2) (L' := [some (.int x0), some (.int x1), some (.int x2)]) (st' := [.int (J (-1)), .int x1]) (v1 := v) (by decide +kernel) rfl trivial ?_
  refine sim_eq (o := 22) (tg := 24) (f := 5) (by decide +kernel) rfl rfl (fun _ => ?_) (fun _ => ?_)
  · refine sim_seg [(.iconst 0, 0, 0, 0)] [] (q := 25) (L' := [some (.int x0), some (.int x1), some (.int x2)]) (st' := [.int (J 0)]) (v1 := v) (by decide +kernel) rfl trivial ?_
    exact sim_iret (by decide +kernel) rfl rfl rfl
  · refine sim_seg [(.iload_n 1, 0, 0, 0), (.iload_n 0, 0, 0, 0)] [] (q := 7) (L' := [some (.int x0), some (.int x1), some (.int x2)]) (st' := [.int x0, .int x1]) (v1 := v) (by decide +kernel) rfl trivial ?_
    refine sim_gt (o := 17) (tg := 24) (f := 10) (by decide +kernel) rfl rfl (fun _ => ?_) (fun _ => ?_)
    · refine sim_seg [(.iconst 0, 0, 0, 0)] [] (q := 25) (L' := [some (.int x0), some (.int x1), some (.int x2)]) (st' := [.int (J 0)]) (v1 := v) (by decide +kernel) rfl trivial ?_
      exact sim_iret (by decide +kernel) rfl rfl rfl
    · refine sim_seg [(.iload_n 2, 0, 0, 0)] [] (q := 11) (L' := [some (.int x0), some (.int x1), some (.int x2)]) (st' := [.int x2]) (v1 := v) (by decide +kernel) rfl trivial ?_
      refine sim_le0 (o := 13) (tg := 24) (f := 14) (by decide +kernel) rfl rfl (fun _ => ?_) (fun _ => ?_)
      · refine sim_grd fun h1 => ?_
        refine sim_seg [(.iload_n 0, 0, 0, 0), (.iload_n 1, 0, 0, 0), (.isub, 0, 0, 0), (.iload_n 2, 0, 0, 0), (.idiv, 0, 0, 0), (.iconst 1, 0, 0, 1), (.iadd, 0, 0, 0), (.goto 4, 0, 0, 0)] [] (q := 25) (L' := [some (.int x0), some (.int x1), some (.int x2)]) (st' := [.int (((x0 - x1) / x2) + (J 1))]) (v1 := v) (by decide +kernel) rfl ⟨h1, trivial⟩ ?_
        exact sim_iret (by decide +kernel) rfl rfl rfl
      · refine sim_seg [(.iconst 0, 0, 0, 0)] [] (q := 25) (L' := [some (.int x0), some (.int x1), some (.int x2)]) (st' := [.int (J 0)]) (v1 := v) (by decide +kernel) rfl trivial ?_
        exact sim_iret (by decide +kernel) rfl rfl rfl
def B_sg_passEdgesUpTo : bd := (⟨"GateCounter$Signal", "passEdgesUpTo", "(I)V"⟩, prog_5_method_12_code, 3, none, [], 3, 1)
theorem m_sg_passEdgesUpTo : mV B_sg_passEdgesUpTo 3 1 := ⟨⟨⟨by decide +kernel, Or.inl rfl⟩, rfl, (List.mem_of_getElem? (i := 713) (by decide +kernel)), by decide +kernel, (List.mem_of_getElem? (i := 99) (by decide +kernel)), ⟨by decide, by decide⟩, by decide⟩, rfl, (by unfold nar; decide +kernel), (List.mem_of_getElem? (i := 712) (by decide +kernel)), rfl, (List.mem_of_getElem? (i := 22) (by decide +kernel))⟩
noncomputable def F_sg_passEdgesUpTo (a0 : Nat) (x1 : Int32) (S : shp) (v : vl) : Option vl :=
  grd (kin S a0 = some (0, 3)) <| (F_sg_edgesUpTo x1 (gi v a0 1) (gi v a0 0) S v).bind fun x2 => (if (J 0) < x2 then (if (J 0) < (gi v a0 4) then lt (si v a0 2 ((gi v a0 2) + x2)) fun w3 => lt (si w3 a0 1 ((gi w3 a0 1) + (x2 * (gi w3 a0 0)))) fun w4 => grd (¬ (gi w4 a0 4) = 0) <| grd (¬ (gi (si w4 a0 3 ((gi w4 a0 3) + (((gi w4 a0 5) + x2) / (gi w4 a0 4)))) a0 4) = 0) <| lt (si w4 a0 3 ((gi w4 a0 3) + (((gi w4 a0 5) + x2) / (gi w4 a0 4)))) fun w7 => lt (((gi w7 a0 5) + x2) - ((gi w7 a0 5) + x2) / (gi w7 a0 4) * (gi w7 a0 4)) fun x8 => lt (si w7 a0 5 x8) fun w9 => some (w9) else some (v)) else some (v))
theorem ok_sg_passEdgesUpTo (a0 : Nat) (x1 : Int32) (S : shp) (v : vl) : SimK B_sg_passEdgesUpTo 0 (entB (bN B_sg_passEdgesUpTo) [.ref a0, .int x1]) [] S v (F_sg_passEdgesUpTo a0 x1 S v) (ρpv S) := by
  show SimK B_sg_passEdgesUpTo 0 [some (.ref a0), some (.int x1), none] [] S v (F_sg_passEdgesUpTo a0 x1 S v) _
  unfold F_sg_passEdgesUpTo
  refine sim_grd fun h1 => ?_
  refine sim_seg [(.iload_n 1, 0, 0, 0), (.aload_n 0, 0, 0, 0), (.getfield 22, 3, 1, 0), (.aload_n 0, 0, 0, 0), (.getfield 18, 3, 0, 0)] [] (q := 9) (L' := [some (.ref a0), some (.int x1), none]) (st' := [.int (gi v a0 0), .int (gi v a0 1), .int x1]) (v1 := v) (by decide +kernel) rfl ⟨h1, h1, trivial⟩ ?_
  refine sc_ri (pc3 := 12) (cf_S (idx := 70) [.int x1, .int (gi v a0 1), .int (gi v a0 0)] m_sg_edgesUpTo ⟨by decide, by decide⟩ (List.mem_of_getElem? (i := 625) (by decide +kernel)) rfl (Nat.le_of_ble_eq_true rfl) (by decide +kernel) (Nat.le_of_ble_eq_true rfl) rfl) (ok_sg_edgesUpTo x1 (gi v a0 1) (gi v a0 0) S v) rfl (fun x2 => ?_)
  refine sim_seg [(.istore_n 2, 0, 0, 0), (.iload_n 2, 0, 0, 0)] [] (q := 14) (L' := [some (.ref a0), some (.int x1), some (.int x2)]) (st' := [.int x2]) (v1 := v) (by decide +kernel) rfl trivial ?_
  refine sim_le0 (o := 70) (tg := 84) (f := 17) (by decide +kernel) rfl rfl (fun _ => ?_) (fun _ => ?_)
  · refine sim_seg [(.aload_n 0, 0, 0, 0), (.getfield 41, 3, 4, 0)] [] (q := 21) (L' := [some (.ref a0), some (.int x1), some (.int x2)]) (st' := [.int (gi v a0 4)]) (v1 := v) (by decide +kernel) rfl ⟨h1, trivial⟩ ?_
    refine sim_le0 (o := 63) (tg := 84) (f := 24) (by decide +kernel) rfl rfl (fun _ => ?_) (fun _ => ?_)
    · refine sim_seg [(.aload_n 0, 0, 0, 0), (.dup, 0, 0, 0), (.getfield 25, 3, 2, 0), (.iload_n 2, 0, 0, 0), (.iadd, 0, 0, 0), (.putfield 25, 3, 2, 0), (.aload_n 0, 0, 0, 0), (.dup, 0, 0, 0), (.getfield 22, 3, 1, 0), (.iload_n 2, 0, 0, 0), (.aload_n 0, 0, 0, 0), (.getfield 18, 3, 0, 0)] [] (q := 44) (L' := [some (.ref a0), some (.int x1), some (.int x2)]) (st' := [.int (gi (si v a0 2 ((gi v a0 2) + x2)) a0 0), .int x2, .int (gi (si v a0 2 ((gi v a0 2) + x2)) a0 1), .ref a0]) (v1 := (si v a0 2 ((gi v a0 2) + x2))) (by decide +kernel) rfl ⟨h1, h1, h1, h1, trivial⟩ ?_
      refine sim_lt (x := (si v a0 2 ((gi v a0 2) + x2))) ?_
      generalize (si v a0 2 ((gi v a0 2) + x2)) = w3
      refine sim_seg [(.imul, 0, 0, 0), (.iadd, 0, 0, 0), (.putfield 22, 3, 1, 0), (.aload_n 0, 0, 0, 0), (.dup, 0, 0, 0), (.getfield 28, 3, 3, 0), (.aload_n 0, 0, 0, 0), (.getfield 44, 3, 5, 0), (.iload_n 2, 0, 0, 0), (.iadd, 0, 0, 0), (.aload_n 0, 0, 0, 0), (.getfield 41, 3, 4, 0)] [] (q := 64) (L' := [some (.ref a0), some (.int x1), some (.int x2)]) (st' := [.int (gi (si w3 a0 1 ((gi w3 a0 1) + (x2 * (gi w3 a0 0)))) a0 4), .int ((gi (si w3 a0 1 ((gi w3 a0 1) + (x2 * (gi w3 a0 0)))) a0 5) + x2), .int (gi (si w3 a0 1 ((gi w3 a0 1) + (x2 * (gi w3 a0 0)))) a0 3), .ref a0]) (v1 := (si w3 a0 1 ((gi w3 a0 1) + (x2 * (gi w3 a0 0))))) (by decide +kernel) rfl ⟨h1, h1, h1, h1, trivial⟩ ?_
      refine sim_lt (x := (si w3 a0 1 ((gi w3 a0 1) + (x2 * (gi w3 a0 0))))) ?_
      generalize (si w3 a0 1 ((gi w3 a0 1) + (x2 * (gi w3 a0 0)))) = w4
      refine sim_grd fun h5 => ?_
      refine sim_grd fun h6 => ?_
      refine sim_seg [(.idiv, 0, 0, 0), (.iadd, 0, 0, 0), (.putfield 28, 3, 3, 0), (.aload_n 0, 0, 0, 0), (.aload_n 0, 0, 0, 0), (.getfield 44, 3, 5, 0), (.iload_n 2, 0, 0, 0), (.iadd, 0, 0, 0), (.aload_n 0, 0, 0, 0), (.getfield 41, 3, 4, 0), (.irem, 0, 0, 0)] [] (q := 81) (L' := [some (.ref a0), some (.int x1), some (.int x2)]) (st' := [.int (((gi (si w4 a0 3 ((gi w4 a0 3) + (((gi w4 a0 5) + x2) / (gi w4 a0 4)))) a0 5) + x2) - ((gi (si w4 a0 3 ((gi w4 a0 3) + (((gi w4 a0 5) + x2) / (gi w4 a0 4)))) a0 5) + x2) / (gi (si w4 a0 3 ((gi w4 a0 3) + (((gi w4 a0 5) + x2) / (gi w4 a0 4)))) a0 4) * (gi (si w4 a0 3 ((gi w4 a0 3) + (((gi w4 a0 5) + x2) / (gi w4 a0 4)))) a0 4)), .ref a0]) (v1 := (si w4 a0 3 ((gi w4 a0 3) + (((gi w4 a0 5) + x2) / (gi w4 a0 4))))) (by decide +kernel) rfl ⟨h5, h1, h1, h1, h6, trivial⟩ ?_
      refine sim_lt (x := (si w4 a0 3 ((gi w4 a0 3) + (((gi w4 a0 5) + x2) / (gi w4 a0 4))))) ?_
      generalize (si w4 a0 3 ((gi w4 a0 3) + (((gi w4 a0 5) + x2) / (gi w4 a0 4)))) = w7
      refine sim_nm (((gi w7 a0 5) + x2) - ((gi w7 a0 5) + x2) / (gi w7 a0 4) * (gi w7 a0 4)) (fun x8 => [some (.ref a0), some (.int x1), some (.int x2)]) (fun x8 => [.int x8, .ref a0]) (fun x8 => ?_) rfl rfl
      refine sim_seg [(.putfield 44, 3, 5, 0)] [] (q := 84) (L' := [some (.ref a0), some (.int x1), some (.int x2)]) (st' := []) (v1 := (si w7 a0 5 x8)) (by decide +kernel) rfl ⟨h1, trivial⟩ ?_
      refine sim_lt (x := (si w7 a0 5 x8)) ?_
      generalize (si w7 a0 5 x8) = w9
      exact sim_vret (by decide +kernel) rfl rfl
    · exact sim_vret (by decide +kernel) rfl rfl
  · exact sim_vret (by decide +kernel) rfl rfl
def B_gc_count : bd := (⟨"GateCounter", "count", "(I)I"⟩, prog_1_method_7_code, 2, (some .int), [], 5, 6)
theorem m_gc_count : mV B_gc_count 5 1 := ⟨⟨⟨by decide +kernel, Or.inl rfl⟩, rfl, (List.mem_of_getElem? (i := 1271) (by decide +kernel)), by decide +kernel, (List.mem_of_getElem? (i := 95) (by decide +kernel)), ⟨by decide, by decide⟩, by decide⟩, rfl, (by unfold nar; decide +kernel), (List.mem_of_getElem? (i := 1269) (by decide +kernel)), rfl, (List.mem_of_getElem? (i := 1270) (by decide +kernel))⟩
noncomputable def F_gc_count (a0 : Nat) (x1 : Int32) (S : shp) (v : vl) : Option (Nat ⊕ Int32) :=
  (if x1 = J 0 then grd (kin S a0 = some (0, 5)) <| (gr S a0 5).bind fun r2 => grd (kin S r2 = some (0, 4)) <| some (.inr (gi v r2 0)) else if x1 = J 1 then grd (kin S a0 = some (0, 5)) <| (gr S a0 5).bind fun r7 => grd (kin S r7 = some (0, 4)) <| (gr S r7 6).bind fun r10 => grd (kin S r10 = some (0, 0)) <| some (.inr (gi v r10 5)) else if x1 = J 2 then grd (kin S a0 = some (0, 5)) <| (gr S a0 5).bind fun r15 => grd (kin S r15 = some (0, 4)) <| (gr S r15 7).bind fun r18 => grd (kin S r18 = some (0, 3)) <| some (.inr (gi v r18 2)) else if x1 = J 3 then grd (kin S a0 = some (0, 5)) <| (gr S a0 5).bind fun r23 => grd (kin S r23 = some (0, 4)) <| (gr S r23 7).bind fun r26 => grd (kin S r26 = some (0, 3)) <| some (.inr (gi v r26 3)) else if x1 = J 4 then grd (kin S a0 = some (0, 5)) <| (gr S a0 5).bind fun r31 => grd (kin S r31 = some (0, 4)) <| (gr S r31 7).bind fun r34 => grd (kin S r34 = some (0, 3)) <| some (.inr (gi v r34 8)) else if x1 = J 5 then grd (kin S a0 = some (0, 5)) <| (gr S a0 5).bind fun r39 => grd (kin S r39 = some (0, 4)) <| (gr S r39 7).bind fun r42 => grd (kin S r42 = some (0, 3)) <| some (.inr (gi v r42 9)) else if x1 = J 6 then grd (kin S a0 = some (0, 5)) <| (gr S a0 5).bind fun r47 => grd (kin S r47 = some (0, 4)) <| some (.inr (gi v r47 4)) else if x1 = J 7 then grd (kin S a0 = some (0, 5)) <| (gr S a0 5).bind fun r52 => grd (kin S r52 = some (0, 4)) <| some (.inr (gi v r52 5)) else if x1 = J 8 then grd (kin S a0 = some (0, 5)) <| some (.inr (gi v a0 12)) else some (.inl 0))
theorem ok_gc_count (a0 : Nat) (x1 : Int32) (S : shp) (v : vl) : SimK B_gc_count 0 (entB (bN B_gc_count) [.ref a0, .int x1]) [] S v (F_gc_count a0 x1 S v) (ρxi S v) := by
  show SimK B_gc_count 0 [some (.ref a0), some (.int x1)] [] S v (F_gc_count a0 x1 S v) _
  unfold F_gc_count
  refine sim_seg [(.iload_n 1, 0, 0, 0)] [] (q := 1) (L' := [some (.ref a0), some (.int x1)]) (st' := [.int x1]) (v1 := v) (by decide +kernel) rfl trivial ?_
  refine sim_case (df := 135) (lw := 0) (hg := 8) (offs := #[51, 59, 70, 81, 92, 103, 114, 122, 130]) (len := 51) (z := 0) (o := 51) (tg := 52) (by decide +kernel) rfl rfl (by decide) (fun _ => ?_) (fun h5 => ?_)
  · refine sim_grd fun h1 => ?_
    refine sim_bind fun r2 h3 => ?_
    refine sim_grd fun h4 => ?_
    refine sim_seg [(.aload_n 0, 0, 0, 0), (.getfield 26, 5, 5, 0), (.getfield 84, 4, 0, 0)] [r2] (q := 59) (L' := [some (.ref a0), some (.int x1)]) (st' := [.int (gi v r2 0)]) (v1 := v) (by decide +kernel) rfl ⟨⟨h1, h3⟩, h4, trivial⟩ ?_
    exact sim_iret (by decide +kernel) rfl rfl rfl
  refine sim_case (df := 135) (lw := 0) (hg := 8) (offs := #[51, 59, 70, 81, 92, 103, 114, 122, 130]) (len := 51) (z := 1) (o := 59) (tg := 60) (by decide +kernel) rfl rfl (by decide) (fun _ => ?_) (fun h13 => ?_)
  · refine sim_grd fun h6 => ?_
    refine sim_bind fun r7 h8 => ?_
    refine sim_grd fun h9 => ?_
    refine sim_bind fun r10 h11 => ?_
    refine sim_grd fun h12 => ?_
    refine sim_seg [(.aload_n 0, 0, 0, 0), (.getfield 26, 5, 5, 0), (.getfield 87, 4, 6, 0), (.getfield 91, 0, 5, 0)] [r7, r10] (q := 70) (L' := [some (.ref a0), some (.int x1)]) (st' := [.int (gi v r10 5)]) (v1 := v) (by decide +kernel) rfl ⟨⟨h6, h8⟩, ⟨h9, h11⟩, h12, trivial⟩ ?_
    exact sim_iret (by decide +kernel) rfl rfl rfl
  refine sim_case (df := 135) (lw := 0) (hg := 8) (offs := #[51, 59, 70, 81, 92, 103, 114, 122, 130]) (len := 51) (z := 2) (o := 70) (tg := 71) (by decide +kernel) rfl rfl (by decide) (fun _ => ?_) (fun h21 => ?_)
  · refine sim_grd fun h14 => ?_
    refine sim_bind fun r15 h16 => ?_
    refine sim_grd fun h17 => ?_
    refine sim_bind fun r18 h19 => ?_
    refine sim_grd fun h20 => ?_
    refine sim_seg [(.aload_n 0, 0, 0, 0), (.getfield 26, 5, 5, 0), (.getfield 69, 4, 7, 0), (.getfield 96, 3, 2, 0)] [r15, r18] (q := 81) (L' := [some (.ref a0), some (.int x1)]) (st' := [.int (gi v r18 2)]) (v1 := v) (by decide +kernel) rfl ⟨⟨h14, h16⟩, ⟨h17, h19⟩, h20, trivial⟩ ?_
    exact sim_iret (by decide +kernel) rfl rfl rfl
  refine sim_case (df := 135) (lw := 0) (hg := 8) (offs := #[51, 59, 70, 81, 92, 103, 114, 122, 130]) (len := 51) (z := 3) (o := 81) (tg := 82) (by decide +kernel) rfl rfl (by decide) (fun _ => ?_) (fun h29 => ?_)
  · refine sim_grd fun h22 => ?_
    refine sim_bind fun r23 h24 => ?_
    refine sim_grd fun h25 => ?_
    refine sim_bind fun r26 h27 => ?_
    refine sim_grd fun h28 => ?_
    refine sim_seg [(.aload_n 0, 0, 0, 0), (.getfield 26, 5, 5, 0), (.getfield 69, 4, 7, 0), (.getfield 97, 3, 3, 0)] [r23, r26] (q := 92) (L' := [some (.ref a0), some (.int x1)]) (st' := [.int (gi v r26 3)]) (v1 := v) (by decide +kernel) rfl ⟨⟨h22, h24⟩, ⟨h25, h27⟩, h28, trivial⟩ ?_
    exact sim_iret (by decide +kernel) rfl rfl rfl
  refine sim_case (df := 135) (lw := 0) (hg := 8) (offs := #[51, 59, 70, 81, 92, 103, 114, 122, 130]) (len := 51) (z := 4) (o := 92) (tg := 93) (by decide +kernel) rfl rfl (by decide) (fun _ => ?_) (fun h37 => ?_)
  · refine sim_grd fun h30 => ?_
    refine sim_bind fun r31 h32 => ?_
    refine sim_grd fun h33 => ?_
    refine sim_bind fun r34 h35 => ?_
    refine sim_grd fun h36 => ?_
    refine sim_seg [(.aload_n 0, 0, 0, 0), (.getfield 26, 5, 5, 0), (.getfield 69, 4, 7, 0), (.getfield 73, 3, 8, 0)] [r31, r34] (q := 103) (L' := [some (.ref a0), some (.int x1)]) (st' := [.int (gi v r34 8)]) (v1 := v) (by decide +kernel) rfl ⟨⟨h30, h32⟩, ⟨h33, h35⟩, h36, trivial⟩ ?_
    exact sim_iret (by decide +kernel) rfl rfl rfl
  refine sim_case (df := 135) (lw := 0) (hg := 8) (offs := #[51, 59, 70, 81, 92, 103, 114, 122, 130]) (len := 51) (z := 5) (o := 103) (tg := 104) (by decide +kernel) rfl rfl (by decide) (fun _ => ?_) (fun h45 => ?_)
  · refine sim_grd fun h38 => ?_
    refine sim_bind fun r39 h40 => ?_
    refine sim_grd fun h41 => ?_
    refine sim_bind fun r42 h43 => ?_
    refine sim_grd fun h44 => ?_
    refine sim_seg [(.aload_n 0, 0, 0, 0), (.getfield 26, 5, 5, 0), (.getfield 69, 4, 7, 0), (.getfield 100, 3, 9, 0)] [r39, r42] (q := 114) (L' := [some (.ref a0), some (.int x1)]) (st' := [.int (gi v r42 9)]) (v1 := v) (by decide +kernel) rfl ⟨⟨h38, h40⟩, ⟨h41, h43⟩, h44, trivial⟩ ?_
    exact sim_iret (by decide +kernel) rfl rfl rfl
  refine sim_case (df := 135) (lw := 0) (hg := 8) (offs := #[51, 59, 70, 81, 92, 103, 114, 122, 130]) (len := 51) (z := 6) (o := 114) (tg := 115) (by decide +kernel) rfl rfl (by decide) (fun _ => ?_) (fun h50 => ?_)
  · refine sim_grd fun h46 => ?_
    refine sim_bind fun r47 h48 => ?_
    refine sim_grd fun h49 => ?_
    refine sim_seg [(.aload_n 0, 0, 0, 0), (.getfield 26, 5, 5, 0), (.getfield 103, 4, 4, 0)] [r47] (q := 122) (L' := [some (.ref a0), some (.int x1)]) (st' := [.int (gi v r47 4)]) (v1 := v) (by decide +kernel) rfl ⟨⟨h46, h48⟩, h49, trivial⟩ ?_
    exact sim_iret (by decide +kernel) rfl rfl rfl
  refine sim_case (df := 135) (lw := 0) (hg := 8) (offs := #[51, 59, 70, 81, 92, 103, 114, 122, 130]) (len := 51) (z := 7) (o := 122) (tg := 123) (by decide +kernel) rfl rfl (by decide) (fun _ => ?_) (fun h55 => ?_)
  · refine sim_grd fun h51 => ?_
    refine sim_bind fun r52 h53 => ?_
    refine sim_grd fun h54 => ?_
    refine sim_seg [(.aload_n 0, 0, 0, 0), (.getfield 26, 5, 5, 0), (.getfield 106, 4, 5, 0)] [r52] (q := 130) (L' := [some (.ref a0), some (.int x1)]) (st' := [.int (gi v r52 5)]) (v1 := v) (by decide +kernel) rfl ⟨⟨h51, h53⟩, h54, trivial⟩ ?_
    exact sim_iret (by decide +kernel) rfl rfl rfl
  refine sim_case (df := 135) (lw := 0) (hg := 8) (offs := #[51, 59, 70, 81, 92, 103, 114, 122, 130]) (len := 51) (z := 8) (o := 130) (tg := 131) (by decide +kernel) rfl rfl (by decide) (fun _ => ?_) (fun h57 => ?_)
  · refine sim_grd fun h56 => ?_
    refine sim_seg [(.aload_n 0, 0, 0, 0), (.getfield 62, 5, 12, 0)] [] (q := 135) (L' := [some (.ref a0), some (.int x1)]) (st' := [.int (gi v a0 12)]) (v1 := v) (by decide +kernel) rfl ⟨h56, trivial⟩ ?_
    exact sim_iret (by decide +kernel) rfl rfl rfl
  refine sim_tdef (df := 135) (lw := 0) (hg := 8) (offs := #[51, 59, 70, 81, 92, 103, 114, 122, 130]) (len := 51) (tg := 136) (by decide +kernel) rfl (by have eh5 := ne_J h5 (by decide) (by decide); have eh13 := ne_J h13 (by decide) (by decide); have eh21 := ne_J h21 (by decide) (by decide); have eh29 := ne_J h29 (by decide) (by decide); have eh37 := ne_J h37 (by decide) (by decide); have eh45 := ne_J h45 (by decide) (by decide); have eh50 := ne_J h50 (by decide) (by decide); have eh55 := ne_J h55 (by decide) (by decide); have eh57 := ne_J h57 (by decide) (by decide); omega) ?_
  exact sim_throw thr0 rfl rfl (by decide) (by decide +kernel) (by decide +kernel) (by decide +kernel) (by decide +kernel) (Nat.le_of_ble_eq_true rfl) rfl
def B_gm_count : bd := (⟨"GateCounterModel", "count", "(I)I"⟩, prog_8_method_61_code, 2, (some .int), [], 6, 0)
theorem m_gm_count : mV B_gm_count 6 1 := ⟨⟨⟨by decide +kernel, Or.inl rfl⟩, rfl, (List.mem_of_getElem? (i := 1822) (by decide +kernel)), by decide +kernel, (List.mem_of_getElem? (i := 104) (by decide +kernel)), ⟨by decide, by decide⟩, by decide⟩, rfl, (by unfold nar; decide +kernel), (List.mem_of_getElem? (i := 1820) (by decide +kernel)), rfl, (List.mem_of_getElem? (i := 1821) (by decide +kernel))⟩
noncomputable def F_gm_count (a0 : Nat) (x1 : Int32) (S : shp) (v : vl) : Option (Int32 × vl) :=
  grd (kin S a0 = some (0, 6)) <| lt (si v a0 10 (J 0)) fun w2 => (if x1 = J 0 then (gr S a0 0).bind fun r3 => grd (kin S r3 = some (1, 199)) <| some (((gi w2 r3 0), w2)) else if x1 = J 1 then (gr S a0 0).bind fun r7 => grd (kin S r7 = some (1, 199)) <| some (((gi w2 r7 11), w2)) else if x1 = J 2 then (gr S a0 0).bind fun r11 => grd (kin S r11 = some (1, 199)) <| some (((gi w2 r11 14), w2)) else if x1 = J 3 then (gr S a0 0).bind fun r15 => grd (kin S r15 = some (1, 199)) <| some (((gi w2 r15 16), w2)) else if x1 = J 4 then (gr S a0 0).bind fun r19 => grd (kin S r19 = some (1, 199)) <| some (((gi w2 r19 19), w2)) else if x1 = J 5 then (gr S a0 0).bind fun r23 => grd (kin S r23 = some (1, 199)) <| some (((gi w2 r23 20), w2)) else if x1 = J 6 then (gr S a0 0).bind fun r27 => grd (kin S r27 = some (1, 199)) <| some (((gi w2 r27 21), w2)) else if x1 = J 7 then (gr S a0 0).bind fun r31 => grd (kin S r31 = some (1, 199)) <| some (((gi w2 r31 22), w2)) else if x1 = J 8 then some (((gi w2 a0 5), w2)) else lt (si w2 a0 10 (J 1)) fun w36 => some (((J 0), w36)))
theorem ok_gm_count (a0 : Nat) (x1 : Int32) (S : shp) (v : vl) : SimK B_gm_count 0 (entB (bN B_gm_count) [.ref a0, .int x1]) [] S v (F_gm_count a0 x1 S v) (ρpi S) := by
  show SimK B_gm_count 0 [some (.ref a0), some (.int x1)] [] S v (F_gm_count a0 x1 S v) _
  unfold F_gm_count
  refine sim_grd fun h1 => ?_
  refine sim_seg [(.aload_n 0, 0, 0, 0), (.iconst 0, 0, 0, 0), (.putfield 38, 6, 10, 0), (.iload_n 1, 0, 0, 0)] [] (q := 6) (L' := [some (.ref a0), some (.int x1)]) (st' := [.int x1]) (v1 := (si v a0 10 (J 0))) (by decide +kernel) rfl ⟨h1, trivial⟩ ?_
  refine sim_lt (x := (si v a0 10 (J 0))) ?_
  generalize (si v a0 10 (J 0)) = w2
  refine sim_case (df := 118) (lw := 0) (hg := 8) (offs := #[50, 57, 65, 73, 81, 89, 97, 105, 113]) (len := 50) (z := 0) (o := 50) (tg := 56) (by decide +kernel) rfl rfl (by decide) (fun _ => ?_) (fun h6 => ?_)
  · refine sim_bind fun r3 h4 => ?_
    refine sim_grd fun h5 => ?_
    refine sim_seg [(.aload_n 0, 0, 0, 0), (.getfield 7, 6, 0, 0), (.iconst 0, 0, 0, 0), (.iaload, 0, 0, 0)] [r3] (q := 62) (L' := [some (.ref a0), some (.int x1)]) (st' := [.int (gi w2 r3 0)]) (v1 := w2) (by decide +kernel) rfl ⟨⟨h1, h4⟩, ⟨(Or.inl (kin_alen h5)), (vin_J h5 (by unfold vp_in; decide))⟩, trivial⟩ ?_
    exact sim_iret (by decide +kernel) rfl rfl rfl
  refine sim_case (df := 118) (lw := 0) (hg := 8) (offs := #[50, 57, 65, 73, 81, 89, 97, 105, 113]) (len := 50) (z := 1) (o := 57) (tg := 63) (by decide +kernel) rfl rfl (by decide) (fun _ => ?_) (fun h10 => ?_)
  · refine sim_bind fun r7 h8 => ?_
    refine sim_grd fun h9 => ?_
    refine sim_seg [(.aload_n 0, 0, 0, 0), (.getfield 7, 6, 0, 0), (.bipush 11, 0, 0, 11), (.iaload, 0, 0, 0)] [r7] (q := 70) (L' := [some (.ref a0), some (.int x1)]) (st' := [.int (gi w2 r7 11)]) (v1 := w2) (by decide +kernel) rfl ⟨⟨h1, h8⟩, ⟨(Or.inl (kin_alen h9)), (vin_J h9 (by unfold vp_in; decide))⟩, trivial⟩ ?_
    exact sim_iret (by decide +kernel) rfl rfl rfl
  refine sim_case (df := 118) (lw := 0) (hg := 8) (offs := #[50, 57, 65, 73, 81, 89, 97, 105, 113]) (len := 50) (z := 2) (o := 65) (tg := 71) (by decide +kernel) rfl rfl (by decide) (fun _ => ?_) (fun h14 => ?_)
  · refine sim_bind fun r11 h12 => ?_
    refine sim_grd fun h13 => ?_
    refine sim_seg [(.aload_n 0, 0, 0, 0), (.getfield 7, 6, 0, 0), (.bipush 14, 0, 0, 14), (.iaload, 0, 0, 0)] [r11] (q := 78) (L' := [some (.ref a0), some (.int x1)]) (st' := [.int (gi w2 r11 14)]) (v1 := w2) (by decide +kernel) rfl ⟨⟨h1, h12⟩, ⟨(Or.inl (kin_alen h13)), (vin_J h13 (by unfold vp_in; decide))⟩, trivial⟩ ?_
    exact sim_iret (by decide +kernel) rfl rfl rfl
  refine sim_case (df := 118) (lw := 0) (hg := 8) (offs := #[50, 57, 65, 73, 81, 89, 97, 105, 113]) (len := 50) (z := 3) (o := 73) (tg := 79) (by decide +kernel) rfl rfl (by decide) (fun _ => ?_) (fun h18 => ?_)
  · refine sim_bind fun r15 h16 => ?_
    refine sim_grd fun h17 => ?_
    refine sim_seg [(.aload_n 0, 0, 0, 0), (.getfield 7, 6, 0, 0), (.bipush 16, 0, 0, 16), (.iaload, 0, 0, 0)] [r15] (q := 86) (L' := [some (.ref a0), some (.int x1)]) (st' := [.int (gi w2 r15 16)]) (v1 := w2) (by decide +kernel) rfl ⟨⟨h1, h16⟩, ⟨(Or.inl (kin_alen h17)), (vin_J h17 (by unfold vp_in; decide))⟩, trivial⟩ ?_
    exact sim_iret (by decide +kernel) rfl rfl rfl
  refine sim_case (df := 118) (lw := 0) (hg := 8) (offs := #[50, 57, 65, 73, 81, 89, 97, 105, 113]) (len := 50) (z := 4) (o := 81) (tg := 87) (by decide +kernel) rfl rfl (by decide) (fun _ => ?_) (fun h22 => ?_)
  · refine sim_bind fun r19 h20 => ?_
    refine sim_grd fun h21 => ?_
    refine sim_seg [(.aload_n 0, 0, 0, 0), (.getfield 7, 6, 0, 0), (.bipush 19, 0, 0, 19), (.iaload, 0, 0, 0)] [r19] (q := 94) (L' := [some (.ref a0), some (.int x1)]) (st' := [.int (gi w2 r19 19)]) (v1 := w2) (by decide +kernel) rfl ⟨⟨h1, h20⟩, ⟨(Or.inl (kin_alen h21)), (vin_J h21 (by unfold vp_in; decide))⟩, trivial⟩ ?_
    exact sim_iret (by decide +kernel) rfl rfl rfl
  refine sim_case (df := 118) (lw := 0) (hg := 8) (offs := #[50, 57, 65, 73, 81, 89, 97, 105, 113]) (len := 50) (z := 5) (o := 89) (tg := 95) (by decide +kernel) rfl rfl (by decide) (fun _ => ?_) (fun h26 => ?_)
  · refine sim_bind fun r23 h24 => ?_
    refine sim_grd fun h25 => ?_
    refine sim_seg [(.aload_n 0, 0, 0, 0), (.getfield 7, 6, 0, 0), (.bipush 20, 0, 0, 20), (.iaload, 0, 0, 0)] [r23] (q := 102) (L' := [some (.ref a0), some (.int x1)]) (st' := [.int (gi w2 r23 20)]) (v1 := w2) (by decide +kernel) rfl ⟨⟨h1, h24⟩, ⟨(Or.inl (kin_alen h25)), (vin_J h25 (by unfold vp_in; decide))⟩, trivial⟩ ?_
    exact sim_iret (by decide +kernel) rfl rfl rfl
  refine sim_case (df := 118) (lw := 0) (hg := 8) (offs := #[50, 57, 65, 73, 81, 89, 97, 105, 113]) (len := 50) (z := 6) (o := 97) (tg := 103) (by decide +kernel) rfl rfl (by decide) (fun _ => ?_) (fun h30 => ?_)
  · refine sim_bind fun r27 h28 => ?_
    refine sim_grd fun h29 => ?_
    refine sim_seg [(.aload_n 0, 0, 0, 0), (.getfield 7, 6, 0, 0), (.bipush 21, 0, 0, 21), (.iaload, 0, 0, 0)] [r27] (q := 110) (L' := [some (.ref a0), some (.int x1)]) (st' := [.int (gi w2 r27 21)]) (v1 := w2) (by decide +kernel) rfl ⟨⟨h1, h28⟩, ⟨(Or.inl (kin_alen h29)), (vin_J h29 (by unfold vp_in; decide))⟩, trivial⟩ ?_
    exact sim_iret (by decide +kernel) rfl rfl rfl
  refine sim_case (df := 118) (lw := 0) (hg := 8) (offs := #[50, 57, 65, 73, 81, 89, 97, 105, 113]) (len := 50) (z := 7) (o := 105) (tg := 111) (by decide +kernel) rfl rfl (by decide) (fun _ => ?_) (fun h34 => ?_)
  · refine sim_bind fun r31 h32 => ?_
    refine sim_grd fun h33 => ?_
    refine sim_seg [(.aload_n 0, 0, 0, 0), (.getfield 7, 6, 0, 0), (.bipush 22, 0, 0, 22), (.iaload, 0, 0, 0)] [r31] (q := 118) (L' := [some (.ref a0), some (.int x1)]) (st' := [.int (gi w2 r31 22)]) (v1 := w2) (by decide +kernel) rfl ⟨⟨h1, h32⟩, ⟨(Or.inl (kin_alen h33)), (vin_J h33 (by unfold vp_in; decide))⟩, trivial⟩ ?_
    exact sim_iret (by decide +kernel) rfl rfl rfl
  refine sim_case (df := 118) (lw := 0) (hg := 8) (offs := #[50, 57, 65, 73, 81, 89, 97, 105, 113]) (len := 50) (z := 8) (o := 113) (tg := 119) (by decide +kernel) rfl rfl (by decide) (fun _ => ?_) (fun h35 => ?_)
  · refine sim_seg [(.aload_n 0, 0, 0, 0), (.getfield 45, 6, 5, 0)] [] (q := 123) (L' := [some (.ref a0), some (.int x1)]) (st' := [.int (gi w2 a0 5)]) (v1 := w2) (by decide +kernel) rfl ⟨h1, trivial⟩ ?_
    exact sim_iret (by decide +kernel) rfl rfl rfl
  refine sim_tdef (df := 118) (lw := 0) (hg := 8) (offs := #[50, 57, 65, 73, 81, 89, 97, 105, 113]) (len := 50) (tg := 124) (by decide +kernel) rfl (by have eh6 := ne_J h6 (by decide) (by decide); have eh10 := ne_J h10 (by decide) (by decide); have eh14 := ne_J h14 (by decide) (by decide); have eh18 := ne_J h18 (by decide) (by decide); have eh22 := ne_J h22 (by decide) (by decide); have eh26 := ne_J h26 (by decide) (by decide); have eh30 := ne_J h30 (by decide) (by decide); have eh34 := ne_J h34 (by decide) (by decide); have eh35 := ne_J h35 (by decide) (by decide); omega) ?_
  refine sim_seg [(.aload_n 0, 0, 0, 0), (.iconst 1, 0, 0, 1), (.putfield 38, 6, 10, 0), (.iconst 0, 0, 0, 0)] [] (q := 130) (L' := [some (.ref a0), some (.int x1)]) (st' := [.int (J 0)]) (v1 := (si w2 a0 10 (J 1))) (by decide +kernel) rfl ⟨h1, trivial⟩ ?_
  refine sim_lt (x := (si w2 a0 10 (J 1))) ?_
  generalize (si w2 a0 10 (J 1)) = w36
  exact sim_iret (by decide +kernel) rfl rfl rfl
