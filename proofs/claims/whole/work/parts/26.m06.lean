/-! Methods: ji_stringSize, ab_append2, sb_append2, ab_length, sb_length, ar_rangeCheck, ar_fill, l1_fillNull, ab_setLength, sb_setLength, gc_printSettings, gc_printSignal, ab_charAt, sb_charAt, gc_outputByte, gc_saveState, gc_count, gc_state, gc_require, gc_segment, gc_found, gc_requireWithin, gc_measurement, gc_edgesComing, gc_edgesIn. -/
def B_ji_stringSize : bd := (⟨"java/lang/Integer", "stringSize", "(I)I"⟩, prog_20_method_13_code, 4, (some .int), [], 14, 0)
theorem m_ji_stringSize : mS B_ji_stringSize 1 := ⟨⟨⟨by decide +kernel, Or.inl rfl⟩, rfl, (List.mem_of_getElem? (i := 1014) (by decide +kernel)), by decide +kernel, (List.mem_of_getElem? (i := 121) (by decide +kernel)), ⟨by decide, by decide⟩, by decide⟩, rfl, (by unfold nar; decide +kernel), (List.mem_of_getElem? (i := 1013) (by decide +kernel))⟩
noncomputable def Y_ji_stringSize_16 (N : Nat)  (i16 : Int32 → Int32 → Int32 → Int32 → Option Int32) (S : shp) (v : vl)  (p0 : Int32) (p1 : Int32) (p2 : Int32) (p3 : Int32) : Option Int32 :=
  (if p3 < (J 10) then (if p2 < p0 then some ((p3 + p1)) else i16 p0 p1 ((J 10) * p2) (p3 + (J 1))) else some (((J 10) + p1)))
noncomputable def K_ji_stringSize_16 (N : Nat)  (n : Nat) (S : shp) (v : vl) : Int32 → Int32 → Int32 → Int32 → Option Int32 :=
  Nat.rec (motive := fun _ => Int32 → Int32 → Int32 → Int32 → Option Int32) (fun _ _ _ _ => none) (fun _ i => Y_ji_stringSize_16 N  i S v) n
theorem sY_ji_stringSize_16 (N : Nat)  (i16 : Int32 → Int32 → Int32 → Int32 → Option Int32) (S : shp) (v : vl)  (j16 : ∀ (p0 : Int32) (p1 : Int32) (p2 : Int32) (p3 : Int32), SimK B_ji_stringSize 16 [some (.int p0), some (.int p1), some (.int p2), some (.int p3)] [] S v (i16 p0 p1 p2 p3) (ρri S v))  (p0 : Int32) (p1 : Int32) (p2 : Int32) (p3 : Int32) : SimK B_ji_stringSize 16 [some (.int p0), some (.int p1), some (.int p2), some (.int p3)] [] S v (Y_ji_stringSize_16 N  i16 S v  p0 p1 p2 p3) (ρri S v) := by
  unfold Y_ji_stringSize_16
  refine sim_seg [(.iload_n 3, 0, 0, 0), (.bipush 10, 0, 0, 10)] [] (q := 19) (L' := [some (.int p0), some (.int p1), some (.int p2), some (.int p3)]) (st' := [.int (J 10), .int p3]) (v1 := v) (by decide +kernel) rfl trivial ?_
  refine sim_ge (o := 23) (tg := 42) (f := 22) (by decide +kernel) rfl rfl (fun _ => ?_) (fun _ => ?_)
  · refine sim_seg [(.iload_n 0, 0, 0, 0), (.iload_n 2, 0, 0, 0)] [] (q := 24) (L' := [some (.int p0), some (.int p1), some (.int p2), some (.int p3)]) (st' := [.int p2, .int p0]) (v1 := v) (by decide +kernel) rfl trivial ?_
    refine sim_le (o := 7) (tg := 31) (f := 27) (by decide +kernel) rfl rfl (fun _ => ?_) (fun _ => ?_)
    · refine sim_seg [(.iload_n 3, 0, 0, 0), (.iload_n 1, 0, 0, 0), (.iadd, 0, 0, 0)] [] (q := 30) (L' := [some (.int p0), some (.int p1), some (.int p2), some (.int p3)]) (st' := [.int (p3 + p1)]) (v1 := v) (by decide +kernel) rfl trivial ?_
      exact sim_iret (by decide +kernel) rfl rfl rfl
    · refine sim_seg [(.bipush 10, 0, 0, 10), (.iload_n 2, 0, 0, 0), (.imul, 0, 0, 0), (.istore_n 2, 0, 0, 0)] [] (q := 36) (L' := [some (.int p0), some (.int p1), some (.int ((J 10) * p2)), some (.int p3)]) (st' := []) (v1 := v) (by decide +kernel) rfl trivial ?_
      refine sim_seg [(.iinc 3 1, 0, 0, 1)] [] (q := 39) (L' := [some (.int p0), some (.int p1), some (.int ((J 10) * p2)), some (.int (p3 + (J 1)))]) (st' := []) (v1 := v) (by decide +kernel) rfl trivial ?_
      refine sim_seg [(.goto (-23), 0, 0, 0)] [] (q := 16) (L' := [some (.int p0), some (.int p1), some (.int ((J 10) * p2)), some (.int (p3 + (J 1)))]) (st' := []) (v1 := v) (by decide +kernel) rfl trivial ?_
      exact j16 p0 p1 ((J 10) * p2) (p3 + (J 1))
  · refine sim_seg [(.bipush 10, 0, 0, 10), (.iload_n 1, 0, 0, 0), (.iadd, 0, 0, 0)] [] (q := 46) (L' := [some (.int p0), some (.int p1), some (.int p2), some (.int p3)]) (st' := [.int ((J 10) + p1)]) (v1 := v) (by decide +kernel) rfl trivial ?_
    exact sim_iret (by decide +kernel) rfl rfl rfl
theorem sR_ji_stringSize_16 (N : Nat)  (S : shp) (v : vl)  (n : Nat) : ∀  (p0 : Int32) (p1 : Int32) (p2 : Int32) (p3 : Int32), SimK B_ji_stringSize 16 [some (.int p0), some (.int p1), some (.int p2), some (.int p3)] [] S v (K_ji_stringSize_16 N  n S v  p0 p1 p2 p3) (ρri S v) := by
  induction n with
  | zero => intro p0 p1 p2 p3; exact sim_none
  | succ k ih => intro p0 p1 p2 p3; exact sY_ji_stringSize_16 N   _ S v  ih p0 p1 p2 p3
theorem sK_ji_stringSize_16 (N : Nat)  (n : Nat) (S : shp) (v : vl) (p0 : Int32) (p1 : Int32) (p2 : Int32) (p3 : Int32) : SimK B_ji_stringSize 16 [some (.int p0), some (.int p1), some (.int p2), some (.int p3)] [] S v (K_ji_stringSize_16 N  n S v  p0 p1 p2 p3) (ρri S v) := sR_ji_stringSize_16 N   S v  n  p0 p1 p2 p3
noncomputable def F_ji_stringSize (N : Nat) (b0 : Int32) (S : shp) (v : vl) : Option Int32 :=
  (if b0 < (J 0) then K_ji_stringSize_16 N  N S v b0 (J 1) (J (-10)) (J 1) else K_ji_stringSize_16 N  N S v (-b0) (J 0) (J (-10)) (J 1))
theorem ok_ji_stringSize (N : Nat) (b0 : Int32) (S : shp) (v : vl) : SimK B_ji_stringSize 0 (entB (bN B_ji_stringSize) [.int b0]) [] S v (F_ji_stringSize N b0 S v) (ρri S v) := by
  show SimK B_ji_stringSize 0 [some (.int b0), none, none, none] [] S v (F_ji_stringSize N b0 S v) _
  unfold F_ji_stringSize
  refine sim_seg [(.iconst 1, 0, 0, 1), (.istore_n 1, 0, 0, 0)] [] (q := 2) (L' := [some (.int b0), some (.int (J 1)), none, none]) (st' := []) (v1 := v) (by decide +kernel) rfl trivial ?_
  refine sim_seg [(.iload_n 0, 0, 0, 0)] [] (q := 3) (L' := [some (.int b0), some (.int (J 1)), none, none]) (st' := [.int b0]) (v1 := v) (by decide +kernel) rfl trivial ?_
  refine sim_lt0 (o := 8) (tg := 11) (f := 6) (by decide +kernel) rfl rfl (fun _ => ?_) (fun _ => ?_)
  · refine sim_seg [(.bipush (-10), 0, 0, (-10)), (.istore_n 2, 0, 0, 0)] [] (q := 14) (L' := [some (.int b0), some (.int (J 1)), some (.int (J (-10))), none]) (st' := []) (v1 := v) (by decide +kernel) rfl trivial ?_
    refine sim_seg [(.iconst 1, 0, 0, 1), (.istore_n 3, 0, 0, 0)] [] (q := 16) (L' := [some (.int b0), some (.int (J 1)), some (.int (J (-10))), some (.int (J 1))]) (st' := []) (v1 := v) (by decide +kernel) rfl trivial ?_
    exact sK_ji_stringSize_16 N N S v b0 (J 1) (J (-10)) (J 1)
  · refine sim_seg [(.iconst 0, 0, 0, 0), (.istore_n 1, 0, 0, 0)] [] (q := 8) (L' := [some (.int b0), some (.int (J 0)), none, none]) (st' := []) (v1 := v) (by decide +kernel) rfl trivial ?_
    refine sim_seg [(.iload_n 0, 0, 0, 0), (.ineg, 0, 0, 0), (.istore_n 0, 0, 0, 0)] [] (q := 11) (L' := [some (.int (-b0)), some (.int (J 0)), none, none]) (st' := []) (v1 := v) (by decide +kernel) rfl trivial ?_
    refine sim_seg [(.bipush (-10), 0, 0, (-10)), (.istore_n 2, 0, 0, 0)] [] (q := 14) (L' := [some (.int (-b0)), some (.int (J 0)), some (.int (J (-10))), none]) (st' := []) (v1 := v) (by decide +kernel) rfl trivial ?_
    refine sim_seg [(.iconst 1, 0, 0, 1), (.istore_n 3, 0, 0, 0)] [] (q := 16) (L' := [some (.int (-b0)), some (.int (J 0)), some (.int (J (-10))), some (.int (J 1))]) (st' := []) (v1 := v) (by decide +kernel) rfl trivial ?_
    exact sK_ji_stringSize_16 N N S v (-b0) (J 0) (J (-10)) (J 1)
def B_ab_append2 : bd := (⟨"java/lang/AbstractStringBuilder", "append", "(I)Ljava/lang/AbstractStringBuilder;"⟩, prog_10_method_32_code, 4, (some (.object "java/lang/AbstractStringBuilder")), [], 8, 4)
theorem m_ab_append2P : mP B_ab_append2 1 := ⟨⟨⟨by decide +kernel, Or.inl rfl⟩, rfl, (List.mem_of_getElem? (i := 1011) (by decide +kernel)), by decide +kernel, (List.mem_of_getElem? (i := 100) (by decide +kernel)), ⟨by decide, by decide⟩, by decide⟩, rfl, (by unfold nar; decide +kernel), (List.mem_of_getElem? (i := 1010) (by decide +kernel)), (List.mem_of_getElem? (i := 2241) (by decide +kernel)), (List.mem_of_getElem? (i := 373) (by decide +kernel)), by decide⟩
noncomputable def F_ab_append2 (N : Nat) (a0 : Nat) (b1 : Int32) (S : shp) (v : vl) : Option ((Option Nat) × shp × vl) :=
  grd (kin S a0 = some (0, 7)) <| (F_ji_stringSize N b1 S v).bind fun x2 => (F_ab_ensureCapacityInternal a0 ((gi v a0 3) + x2) S v).bind fun (S3, w4) => (F_ab_isLatin1 a0 S3 w4).bind fun x6 => (if x6 = (J 0) then none else (gr S3 a0 0).bind fun r7 => (F_ji_getChars N b1 ((gi v a0 3) + x2) r7 S3 w4).bind fun (x9, w10) => lt (si w10 a0 3 ((gi v a0 3) + x2)) fun w11 => some (((some a0), S3, w11)))
theorem ok_ab_append2 (N : Nat) (a0 : Nat) (b1 : Int32) (S : shp) (v : vl) : SimK B_ab_append2 0 (entB (bN B_ab_append2) [.ref a0, .int b1]) [] S v (F_ab_append2 N a0 b1 S v) (ρgq) := by
  show SimK B_ab_append2 0 [some (.ref a0), some (.int b1), none, none] [] S v (F_ab_append2 N a0 b1 S v) _
  unfold F_ab_append2
  refine sim_grd fun h1 => ?_
  refine sim_seg [(.aload_n 0, 0, 0, 0), (.getfield 79, 7, 3, 0), (.istore_n 2, 0, 0, 0)] [] (q := 5) (L' := [some (.ref a0), some (.int b1), some (.int (gi v a0 3)), none]) (st' := []) (v1 := v) (by decide +kernel) rfl ⟨h1, trivial⟩ ?_
  refine sim_seg [(.iload_n 2, 0, 0, 0), (.iload_n 1, 0, 0, 0)] [] (q := 7) (L' := [some (.ref a0), some (.int b1), some (.int (gi v a0 3)), none]) (st' := [.int b1, .int (gi v a0 3)]) (v1 := v) (by decide +kernel) rfl trivial ?_
  refine sc_ri (pc3 := 10) (cf_S (idx := 245) [.int b1] m_ji_stringSize ⟨by decide, by decide⟩ (List.mem_of_getElem? (i := 1012) (by decide +kernel)) rfl (Nat.le_of_ble_eq_true rfl) (by decide +kernel) (Nat.le_of_ble_eq_true rfl) rfl) (ok_ji_stringSize N b1 S v) rfl (fun x2 => ?_)
  refine sim_seg [(.iadd, 0, 0, 0), (.istore_n 3, 0, 0, 0)] [] (q := 12) (L' := [some (.ref a0), some (.int b1), some (.int (gi v a0 3)), some (.int ((gi v a0 3) + x2))]) (st' := []) (v1 := v) (by decide +kernel) rfl trivial ?_
  refine sim_seg [(.aload_n 0, 0, 0, 0), (.iload_n 3, 0, 0, 0)] [] (q := 14) (L' := [some (.ref a0), some (.int b1), some (.int (gi v a0 3)), some (.int ((gi v a0 3) + x2))]) (st' := [.int ((gi v a0 3) + x2), .ref a0]) (v1 := v) (by decide +kernel) rfl trivial ?_
  refine sc_gv (pc3 := 17) (cf_U (idx := 100) [.int ((gi v a0 3) + x2)] m_ab_ensureCapacityInternal ⟨by decide, by decide⟩ (List.mem_of_getElem? (i := 921) (by decide +kernel)) rfl (Nat.le_of_ble_eq_true rfl) h1 (by decide +kernel) (Nat.le_of_ble_eq_true rfl) rfl) (ok_ab_ensureCapacityInternal a0 ((gi v a0 3) + x2) S v) rfl (fun S3 w4 h5 => ?_)
  refine sim_seg [(.aload_n 0, 0, 0, 0)] [] (q := 18) (L' := [some (.ref a0), some (.int b1), some (.int (gi v a0 3)), some (.int ((gi v a0 3) + x2))]) (st' := [.ref a0]) (v1 := w4) (by decide +kernel) rfl trivial ?_
  refine sc_ri (pc3 := 21) (cf_U (idx := 83) [] m_ab_isLatin1 ⟨by decide, by decide⟩ (List.mem_of_getElem? (i := 950) (by decide +kernel)) rfl (Nat.le_of_ble_eq_true rfl) (h5.2.2.2.2 _ _ h1) (by decide +kernel) (Nat.le_of_ble_eq_true rfl) rfl) (ok_ab_isLatin1 a0 S3 w4) rfl (fun x6 => ?_)
  refine sim_eq0 (o := 16) (tg := 37) (f := 24) (by decide +kernel) rfl rfl (fun _ => ?_) (fun _ => ?_)
  · exact sim_none
  · refine sim_bind fun r7 h8 => ?_
    refine sim_seg [(.iload_n 1, 0, 0, 0), (.iload_n 3, 0, 0, 0), (.aload_n 0, 0, 0, 0), (.getfield 15, 7, 0, 0)] [r7] (q := 30) (L' := [some (.ref a0), some (.int b1), some (.int (gi v a0 3)), some (.int ((gi v a0 3) + x2))]) (st' := [.ref r7, .int ((gi v a0 3) + x2), .int b1]) (v1 := w4) (by decide +kernel) rfl ⟨⟨(h5.2.2.2.2 _ _ h1), h8⟩, trivial⟩ ?_
    refine sc_pi (pc3 := 33) (cf_S (idx := 248) [.int b1, .int ((gi v a0 3) + x2), .ref r7] m_ji_getChars ⟨by decide, by decide⟩ (List.mem_of_getElem? (i := 1015) (by decide +kernel)) rfl (Nat.le_of_ble_eq_true rfl) (by decide +kernel) (Nat.le_of_ble_eq_true rfl) rfl) (ok_ji_getChars N b1 ((gi v a0 3) + x2) r7 S3 w4) rfl (fun x9 w10 => ?_)
    refine sim_seg [(.pop, 0, 0, 0), (.goto 14, 0, 0, 0), (.aload_n 0, 0, 0, 0), (.iload_n 3, 0, 0, 0), (.putfield 79, 7, 3, 0), (.aload_n 0, 0, 0, 0)] [] (q := 54) (L' := [some (.ref a0), some (.int b1), some (.int (gi v a0 3)), some (.int ((gi v a0 3) + x2))]) (st' := [.ref a0]) (v1 := (si w10 a0 3 ((gi v a0 3) + x2))) (by decide +kernel) rfl ⟨(h5.2.2.2.2 _ _ h1), trivial⟩ ?_
    refine sim_lt (x := (si w10 a0 3 ((gi v a0 3) + x2))) ?_
    generalize (si w10 a0 3 ((gi v a0 3) + x2)) = w11
    exact sim_aretS (by decide +kernel) rfl (Or.inl ⟨_, rfl⟩) rfl
def B_sb_append2 : bd := (⟨"java/lang/StringBuilder", "append", "(I)Ljava/lang/StringBuilder;"⟩, prog_25_method_15_code, 2, (some (.object "java/lang/StringBuilder")), [], 7, 5)
theorem m_sb_append2 : mV B_sb_append2 7 1 := ⟨⟨⟨by decide +kernel, Or.inl rfl⟩, rfl, (List.mem_of_getElem? (i := 1008) (by decide +kernel)), by decide +kernel, (List.mem_of_getElem? (i := 101) (by decide +kernel)), ⟨by decide, by decide⟩, by decide⟩, rfl, (by unfold nar; decide +kernel), (List.mem_of_getElem? (i := 1006) (by decide +kernel)), rfl, (List.mem_of_getElem? (i := 1007) (by decide +kernel))⟩
noncomputable def F_sb_append2 (N : Nat) (a0 : Nat) (b1 : Int32) (S : shp) (v : vl) : Option ((Option Nat) × shp × vl) :=
  grd (kin S a0 = some (0, 7)) <| (F_ab_append2 N a0 b1 S v).bind fun (q2, S3, w4) => oc2 q2 none fun r6 => some (((some a0), S3, w4))
theorem ok_sb_append2 (N : Nat) (a0 : Nat) (b1 : Int32) (S : shp) (v : vl) : SimK B_sb_append2 0 (entB (bN B_sb_append2) [.ref a0, .int b1]) [] S v (F_sb_append2 N a0 b1 S v) (ρgq) := by
  show SimK B_sb_append2 0 [some (.ref a0), some (.int b1)] [] S v (F_sb_append2 N a0 b1 S v) _
  unfold F_sb_append2
  refine sim_seg [(.aload_n 0, 0, 0, 0), (.iload_n 1, 0, 0, 0)] [] (q := 2) (L' := [some (.ref a0), some (.int b1)]) (st' := [.int b1, .ref a0]) (v1 := v) (by decide +kernel) rfl trivial ?_
  refine sim_grd fun h1 => ?_
  refine sc_gq (pc3 := 5) (cf_P (idx := 53) [.int b1] m_ab_append2P ⟨by decide, by decide⟩ rfl (List.mem_of_getElem? (i := 1009) (by decide +kernel)) rfl (Nat.le_of_ble_eq_true rfl) h1 (by decide +kernel) (Nat.le_of_ble_eq_true rfl) rfl) (ok_ab_append2 N a0 b1 S v) rfl (fun q2 S3 w4 h5 => ?_)
  refine sim_oc2 (fun _ => sim_none) (fun r6 _ => ?_)
  refine sim_seg [(.pop, 0, 0, 0), (.aload_n 0, 0, 0, 0)] [] (q := 7) (L' := [some (.ref a0), some (.int b1)]) (st' := [.ref a0]) (v1 := w4) (by decide +kernel) rfl trivial ?_
  exact sim_aretS (by decide +kernel) rfl (Or.inl ⟨_, rfl⟩) rfl
def B_ab_length : bd := (⟨"java/lang/AbstractStringBuilder", "length", "()I"⟩, prog_10_method_6_code, 1, (some .int), [], 8, 0)
theorem m_ab_lengthP : mP B_ab_length 0 := ⟨⟨⟨by decide +kernel, Or.inl rfl⟩, rfl, (List.mem_of_getElem? (i := 1055) (by decide +kernel)), by decide +kernel, (List.mem_of_getElem? (i := 100) (by decide +kernel)), ⟨by decide, by decide⟩, by decide⟩, rfl, (by unfold nar; decide +kernel), (List.mem_of_getElem? (i := 1049) (by decide +kernel)), (List.mem_of_getElem? (i := 1050) (by decide +kernel)), (List.mem_of_getElem? (i := 373) (by decide +kernel)), by decide⟩
noncomputable def F_ab_length (a0 : Nat) (S : shp) (v : vl) : Option Int32 :=
  grd (kin S a0 = some (0, 7)) <| some ((gi v a0 3))
theorem ok_ab_length (a0 : Nat) (S : shp) (v : vl) : SimK B_ab_length 0 (entB (bN B_ab_length) [.ref a0]) [] S v (F_ab_length a0 S v) (ρri S v) := by
  show SimK B_ab_length 0 [some (.ref a0)] [] S v (F_ab_length a0 S v) _
  unfold F_ab_length
  refine sim_grd fun h1 => ?_
  refine sim_seg [(.aload_n 0, 0, 0, 0), (.getfield 79, 7, 3, 0)] [] (q := 4) (L' := [some (.ref a0)]) (st' := [.int (gi v a0 3)]) (v1 := v) (by decide +kernel) rfl ⟨h1, trivial⟩ ?_
  exact sim_iret (by decide +kernel) rfl rfl rfl
def B_sb_length : bd := (⟨"java/lang/StringBuilder", "length", "()I"⟩, prog_25_method_93_code, 1, (some .int), [], 7, 1)
theorem m_sb_length : mV B_sb_length 7 0 := ⟨⟨⟨by decide +kernel, Or.inl rfl⟩, rfl, (List.mem_of_getElem? (i := 1053) (by decide +kernel)), by decide +kernel, (List.mem_of_getElem? (i := 101) (by decide +kernel)), ⟨by decide, by decide⟩, by decide⟩, rfl, (by unfold nar; decide +kernel), (List.mem_of_getElem? (i := 1052) (by decide +kernel)), rfl, (List.mem_of_getElem? (i := 2244) (by decide +kernel))⟩
noncomputable def F_sb_length (a0 : Nat) (S : shp) (v : vl) : Option Int32 :=
  grd (kin S a0 = some (0, 7)) <| (F_ab_length a0 S v).bind fun x2 => some (x2)
theorem ok_sb_length (a0 : Nat) (S : shp) (v : vl) : SimK B_sb_length 0 (entB (bN B_sb_length) [.ref a0]) [] S v (F_sb_length a0 S v) (ρri S v) := by
  show SimK B_sb_length 0 [some (.ref a0)] [] S v (F_sb_length a0 S v) _
  unfold F_sb_length
  refine sim_seg [(.aload_n 0, 0, 0, 0)] [] (q := 1) (L' := [some (.ref a0)]) (st' := [.ref a0]) (v1 := v) (by decide +kernel) rfl trivial ?_
  refine sim_grd fun h1 => ?_
  refine sc_ri (pc3 := 4) (cf_P (idx := 343) [] m_ab_lengthP ⟨by decide, by decide⟩ rfl (List.mem_of_getElem? (i := 1054) (by decide +kernel)) rfl (Nat.le_of_ble_eq_true rfl) h1 (by decide +kernel) (Nat.le_of_ble_eq_true rfl) rfl) (ok_ab_length a0 S v) rfl (fun x2 => ?_)
  exact sim_iret (by decide +kernel) rfl rfl rfl
def B_ar_rangeCheck : bd := (⟨"java/util/Arrays", "rangeCheck", "(III)V"⟩, prog_33_method_30_code, 3, none, [], 13, 0)
theorem m_ar_rangeCheck : mS B_ar_rangeCheck 3 := ⟨⟨⟨by decide +kernel, Or.inl rfl⟩, rfl, (List.mem_of_getElem? (i := 1181) (by decide +kernel)), by decide +kernel, (List.mem_of_getElem? (i := 119) (by decide +kernel)), ⟨by decide, by decide⟩, by decide⟩, rfl, (by unfold nar; decide +kernel), (List.mem_of_getElem? (i := 1180) (by decide +kernel))⟩
noncomputable def F_ar_rangeCheck (b0 : Int32) (b1 : Int32) (b2 : Int32) (S : shp) (v : vl) : Option Unit :=
  (if b2 < b1 then none else (if b1 < (J 0) then none else (if b0 < b2 then none else some (()))))
theorem ok_ar_rangeCheck (b0 : Int32) (b1 : Int32) (b2 : Int32) (S : shp) (v : vl) : SimK B_ar_rangeCheck 0 (entB (bN B_ar_rangeCheck) [.int b0, .int b1, .int b2]) [] S v (F_ar_rangeCheck b0 b1 b2 S v) (ρrv S v) := by
  show SimK B_ar_rangeCheck 0 [some (.int b0), some (.int b1), some (.int b2)] [] S v (F_ar_rangeCheck b0 b1 b2 S v) _
  unfold F_ar_rangeCheck
  refine sim_seg [(.iload_n 1, 0, 0, 0), (.iload_n 2, 0, 0, 0)] [] (q := 2) (L' := [some (.int b0), some (.int b1), some (.int b2)]) (st' := [.int b2, .int b1]) (v1 := v) (by decide +kernel) rfl trivial ?_
  refine sim_le (o := 44) (tg := 46) (f := 5) (by decide +kernel) rfl rfl (fun _ => ?_) (fun _ => ?_)
  · exact sim_none
  · refine sim_seg [(.iload_n 1, 0, 0, 0)] [] (q := 47) (L' := [some (.int b0), some (.int b1), some (.int b2)]) (st' := [.int b1]) (v1 := v) (by decide +kernel) rfl trivial ?_
    refine sim_ge0 (o := 12) (tg := 59) (f := 50) (by decide +kernel) rfl rfl (fun _ => ?_) (fun _ => ?_)
    · exact sim_none
    · refine sim_seg [(.iload_n 2, 0, 0, 0), (.iload_n 0, 0, 0, 0)] [] (q := 61) (L' := [some (.int b0), some (.int b1), some (.int b2)]) (st' := [.int b0, .int b2]) (v1 := v) (by decide +kernel) rfl trivial ?_
      refine sim_le (o := 12) (tg := 73) (f := 64) (by decide +kernel) rfl rfl (fun _ => ?_) (fun _ => ?_)
      · exact sim_none
      · exact sim_vret (by decide +kernel) rfl rfl
def B_ar_fill : bd := (⟨"java/util/Arrays", "fill", "([BIIB)V"⟩, prog_33_method_110_code, 5, none, [], 13, 1)
theorem m_ar_fill : mS B_ar_fill 4 := ⟨⟨⟨by decide +kernel, Or.inl rfl⟩, rfl, (List.mem_of_getElem? (i := 1178) (by decide +kernel)), by decide +kernel, (List.mem_of_getElem? (i := 119) (by decide +kernel)), ⟨by decide, by decide⟩, by decide⟩, rfl, (by unfold nar; decide +kernel), (List.mem_of_getElem? (i := 1177) (by decide +kernel))⟩
noncomputable def Y_ar_fill_10 (N : Nat)  (i10 : vl → Nat → Int32 → Int32 → Int32 → Option vl) (S : shp) (v : vl) (p0 : Nat) (p2 : Int32) (p3 : Int32) (p4 : Int32) : Option vl :=
  (if p4 < p2 then grd (kin S p0 = some (2, alen S p0)) <| grd (vp_in p4 (alen S p0)) <| lt (si v p0 (Int32.toNatClampNeg p4) (Int8.toInt32 (Int32.toInt8 p3))) fun w4 => i10 w4 p0 p2 p3 (p4 + (J 1)) else some (v))
noncomputable def K_ar_fill_10 (N : Nat)  (n : Nat) (S : shp) : vl → Nat → Int32 → Int32 → Int32 → Option vl :=
  Nat.rec (motive := fun _ => vl → Nat → Int32 → Int32 → Int32 → Option vl) (fun _ _ _ _ _ => none) (fun _ i => Y_ar_fill_10 N  i S) n
theorem sY_ar_fill_10 (N : Nat)  (i10 : vl → Nat → Int32 → Int32 → Int32 → Option vl) (S : shp)  (j10 : ∀ (v : vl) (p0 : Nat) (p2 : Int32) (p3 : Int32) (p4 : Int32), SimK B_ar_fill 10 [some (.ref p0), none, some (.int p2), some (.int p3), some (.int p4)] [] S v (i10 v p0 p2 p3 p4) (ρpv S)) (v : vl) (p0 : Nat) (p2 : Int32) (p3 : Int32) (p4 : Int32) : SimK B_ar_fill 10 [some (.ref p0), none, some (.int p2), some (.int p3), some (.int p4)] [] S v (Y_ar_fill_10 N  i10 S v p0 p2 p3 p4) (ρpv S) := by
  unfold Y_ar_fill_10
  refine sim_seg [(.iload 4, 0, 0, 0), (.iload_n 2, 0, 0, 0)] [] (q := 13) (L' := [some (.ref p0), none, some (.int p2), some (.int p3), some (.int p4)]) (st' := [.int p2, .int p4]) (v1 := v) (by decide +kernel) rfl trivial ?_
  refine sim_ge (o := 14) (tg := 27) (f := 16) (by decide +kernel) rfl rfl (fun _ => ?_) (fun _ => ?_)
  · refine sim_grd fun h2 => ?_
    refine sim_grd fun h3 => ?_
    refine sim_seg [(.aload_n 0, 0, 0, 0), (.iload 4, 0, 0, 0), (.iload_n 3, 0, 0, 0), (.bastore, 0, 0, 0), (.iinc 4 1, 0, 0, 1)] [] (q := 24) (L' := [some (.ref p0), none, some (.int p2), some (.int p3), some (.int (p4 + (J 1)))]) (st' := []) (v1 := (si v p0 (Int32.toNatClampNeg p4) (Int8.toInt32 (Int32.toInt8 p3)))) (by decide +kernel) rfl ⟨⟨h2, h3⟩, trivial⟩ ?_
    refine sim_lt (x := (si v p0 (Int32.toNatClampNeg p4) (Int8.toInt32 (Int32.toInt8 p3)))) ?_
    generalize (si v p0 (Int32.toNatClampNeg p4) (Int8.toInt32 (Int32.toInt8 p3))) = w4
    refine sim_seg [(.goto (-14), 0, 0, 0)] [] (q := 10) (L' := [some (.ref p0), none, some (.int p2), some (.int p3), some (.int (p4 + (J 1)))]) (st' := []) (v1 := w4) (by decide +kernel) rfl trivial ?_
    exact j10 w4 p0 p2 p3 (p4 + (J 1))
  · exact sim_vret (by decide +kernel) rfl rfl
theorem sR_ar_fill_10 (N : Nat)  (S : shp)  (n : Nat) : ∀ (v : vl) (p0 : Nat) (p2 : Int32) (p3 : Int32) (p4 : Int32), SimK B_ar_fill 10 [some (.ref p0), none, some (.int p2), some (.int p3), some (.int p4)] [] S v (K_ar_fill_10 N  n S v p0 p2 p3 p4) (ρpv S) := by
  induction n with
  | zero => intro v p0 p2 p3 p4; exact sim_none
  | succ k ih => intro v p0 p2 p3 p4; exact sY_ar_fill_10 N   _ S  ih v p0 p2 p3 p4
theorem sK_ar_fill_10 (N : Nat)  (n : Nat) (S : shp) (v : vl) (p0 : Nat) (p2 : Int32) (p3 : Int32) (p4 : Int32) : SimK B_ar_fill 10 [some (.ref p0), none, some (.int p2), some (.int p3), some (.int p4)] [] S v (K_ar_fill_10 N  n S v p0 p2 p3 p4) (ρpv S) := sR_ar_fill_10 N   S  n  v p0 p2 p3 p4
noncomputable def F_ar_fill (N : Nat) (a0 : Nat) (b1 : Int32) (b2 : Int32) (b3 : Int32) (S : shp) (v : vl) : Option vl :=
  grd (isArr (kin S a0)) <| (F_ar_rangeCheck (nI (alen S a0)) b1 b2 S v).bind fun _ => K_ar_fill_10 N  N S v a0 b2 b3 b1
theorem ok_ar_fill (N : Nat) (a0 : Nat) (b1 : Int32) (b2 : Int32) (b3 : Int32) (S : shp) (v : vl) : SimK B_ar_fill 0 (entB (bN B_ar_fill) [.ref a0, .int b1, .int b2, .int b3]) [] S v (F_ar_fill N a0 b1 b2 b3 S v) (ρpv S) := by
  show SimK B_ar_fill 0 [some (.ref a0), some (.int b1), some (.int b2), some (.int b3), none] [] S v (F_ar_fill N a0 b1 b2 b3 S v) _
  unfold F_ar_fill
  refine sim_grd fun h1 => ?_
  refine sim_seg [(.aload_n 0, 0, 0, 0), (.arraylength, 0, 0, 0), (.iload_n 1, 0, 0, 0), (.iload_n 2, 0, 0, 0)] [] (q := 4) (L' := [some (.ref a0), some (.int b1), some (.int b2), some (.int b3), none]) (st' := [.int b2, .int b1, .int (nI (alen S a0))]) (v1 := v) (by decide +kernel) rfl ⟨h1, trivial⟩ ?_
  refine sc_rv (pc3 := 7) (cf_S (idx := 13) [.int (nI (alen S a0)), .int b1, .int b2] m_ar_rangeCheck ⟨by decide, by decide⟩ (List.mem_of_getElem? (i := 1179) (by decide +kernel)) rfl (Nat.le_of_ble_eq_true rfl) (by decide +kernel) (Nat.le_of_ble_eq_true rfl) rfl) (ok_ar_rangeCheck (nI (alen S a0)) b1 b2 S v) rfl (fun _ => ?_)
  refine sim_seg [(.iload_n 1, 0, 0, 0), (.istore 4, 0, 0, 0)] [] (q := 10) (L' := [some (.ref a0), some (.int b1), some (.int b2), some (.int b3), some (.int b1)]) (st' := []) (v1 := v) (by decide +kernel) rfl trivial ?_
  exact sim_wk (L0 := [some (.ref a0), none, some (.int b2), some (.int b3), some (.int b1)]) ⟨rfl, rfl, rfl, rfl, trivial⟩ (sK_ar_fill_10 N N S v a0 b2 b3 b1)
def B_l1_fillNull : bd := (⟨"java/lang/StringLatin1", "fillNull", "([BII)V"⟩, prog_27_method_48_code, 3, none, [], 10, 2)
theorem m_l1_fillNull : mS B_l1_fillNull 3 := ⟨⟨⟨by decide +kernel, Or.inl rfl⟩, rfl, (List.mem_of_getElem? (i := 1175) (by decide +kernel)), by decide +kernel, (List.mem_of_getElem? (i := 105) (by decide +kernel)), ⟨by decide, by decide⟩, by decide⟩, rfl, (by unfold nar; decide +kernel), (List.mem_of_getElem? (i := 1174) (by decide +kernel))⟩
noncomputable def F_l1_fillNull (N : Nat) (a0 : Nat) (b1 : Int32) (b2 : Int32) (S : shp) (v : vl) : Option vl :=
  (F_ar_fill N a0 b1 b2 (J 0) S v).bind fun w1 => some (w1)
theorem ok_l1_fillNull (N : Nat) (a0 : Nat) (b1 : Int32) (b2 : Int32) (S : shp) (v : vl) : SimK B_l1_fillNull 0 (entB (bN B_l1_fillNull) [.ref a0, .int b1, .int b2]) [] S v (F_l1_fillNull N a0 b1 b2 S v) (ρpv S) := by
  show SimK B_l1_fillNull 0 [some (.ref a0), some (.int b1), some (.int b2)] [] S v (F_l1_fillNull N a0 b1 b2 S v) _
  unfold F_l1_fillNull
  refine sim_seg [(.aload_n 0, 0, 0, 0), (.iload_n 1, 0, 0, 0), (.iload_n 2, 0, 0, 0), (.iconst 0, 0, 0, 0)] [] (q := 4) (L' := [some (.ref a0), some (.int b1), some (.int b2)]) (st' := [.int (J 0), .int b2, .int b1, .ref a0]) (v1 := v) (by decide +kernel) rfl trivial ?_
  refine sc_pv (pc3 := 7) (cf_S (idx := 236) [.ref a0, .int b1, .int b2, .int (J 0)] m_ar_fill ⟨by decide, by decide⟩ (List.mem_of_getElem? (i := 1176) (by decide +kernel)) rfl (Nat.le_of_ble_eq_true rfl) (by decide +kernel) (Nat.le_of_ble_eq_true rfl) rfl) (ok_ar_fill N a0 b1 b2 (J 0) S v) rfl (fun w1 => ?_)
  exact sim_vret (by decide +kernel) rfl rfl
def B_ab_setLength : bd := (⟨"java/lang/AbstractStringBuilder", "setLength", "(I)V"⟩, prog_10_method_13_code, 2, none, [], 8, 4)
theorem m_ab_setLengthP : mP B_ab_setLength 1 := ⟨⟨⟨by decide +kernel, Or.inl rfl⟩, rfl, (List.mem_of_getElem? (i := 901) (by decide +kernel)), by decide +kernel, (List.mem_of_getElem? (i := 100) (by decide +kernel)), ⟨by decide, by decide⟩, by decide⟩, rfl, (by unfold nar; decide +kernel), (List.mem_of_getElem? (i := 900) (by decide +kernel)), (List.mem_of_getElem? (i := 2233) (by decide +kernel)), (List.mem_of_getElem? (i := 373) (by decide +kernel)), by decide⟩
noncomputable def F_ab_setLength (N : Nat) (a0 : Nat) (b1 : Int32) (S : shp) (v : vl) : Option (shp × vl) :=
  (if b1 < (J 0) then none else grd (kin S a0 = some (0, 7)) <| (F_ab_ensureCapacityInternal a0 b1 S v).bind fun (S2, w3) => (if (gi w3 a0 3) < b1 then (F_ab_isLatin1 a0 S2 w3).bind fun x5 => (if x5 = (J 0) then none else (gr S2 a0 0).bind fun r6 => (F_l1_fillNull N r6 (gi w3 a0 3) b1 S2 w3).bind fun w8 => lt (si w8 a0 3 b1) fun w9 => some ((S2, w9))) else (if b1 < (gi w3 a0 3) then lt (si (si w3 a0 2 (J 1)) a0 3 b1) fun w10 => some ((S2, w10)) else lt (si w3 a0 3 b1) fun w11 => some ((S2, w11)))))
theorem ok_ab_setLength (N : Nat) (a0 : Nat) (b1 : Int32) (S : shp) (v : vl) : SimK B_ab_setLength 0 (entB (bN B_ab_setLength) [.ref a0, .int b1]) [] S v (F_ab_setLength N a0 b1 S v) (ρgv) := by
  show SimK B_ab_setLength 0 [some (.ref a0), some (.int b1)] [] S v (F_ab_setLength N a0 b1 S v) _
  unfold F_ab_setLength
  refine sim_seg [(.iload_n 1, 0, 0, 0)] [] (q := 1) (L' := [some (.ref a0), some (.int b1)]) (st' := [.int b1]) (v1 := v) (by decide +kernel) rfl trivial ?_
  refine sim_ge0 (o := 12) (tg := 13) (f := 4) (by decide +kernel) rfl rfl (fun _ => ?_) (fun _ => ?_)
  · exact sim_none
  · refine sim_seg [(.aload_n 0, 0, 0, 0), (.iload_n 1, 0, 0, 0)] [] (q := 15) (L' := [some (.ref a0), some (.int b1)]) (st' := [.int b1, .ref a0]) (v1 := v) (by decide +kernel) rfl trivial ?_
    refine sim_grd fun h1 => ?_
    refine sc_gv (pc3 := 18) (cf_U (idx := 100) [.int b1] m_ab_ensureCapacityInternal ⟨by decide, by decide⟩ (List.mem_of_getElem? (i := 921) (by decide +kernel)) rfl (Nat.le_of_ble_eq_true rfl) h1 (by decide +kernel) (Nat.le_of_ble_eq_true rfl) rfl) (ok_ab_ensureCapacityInternal a0 b1 S v) rfl (fun S2 w3 h4 => ?_)
    refine sim_seg [(.aload_n 0, 0, 0, 0), (.getfield 79, 7, 3, 0), (.iload_n 1, 0, 0, 0)] [] (q := 23) (L' := [some (.ref a0), some (.int b1)]) (st' := [.int b1, .int (gi w3 a0 3)]) (v1 := w3) (by decide +kernel) rfl ⟨(h4.2.2.2.2 _ _ h1), trivial⟩ ?_
    refine sim_ge (o := 40) (tg := 63) (f := 26) (by decide +kernel) rfl rfl (fun _ => ?_) (fun _ => ?_)
    · refine sim_seg [(.aload_n 0, 0, 0, 0)] [] (q := 27) (L' := [some (.ref a0), some (.int b1)]) (st' := [.ref a0]) (v1 := w3) (by decide +kernel) rfl trivial ?_
      refine sc_ri (pc3 := 30) (cf_U (idx := 83) [] m_ab_isLatin1 ⟨by decide, by decide⟩ (List.mem_of_getElem? (i := 950) (by decide +kernel)) rfl (Nat.le_of_ble_eq_true rfl) (h4.2.2.2.2 _ _ h1) (by decide +kernel) (Nat.le_of_ble_eq_true rfl) rfl) (ok_ab_isLatin1 a0 S2 w3) rfl (fun x5 => ?_)
      refine sim_eq0 (o := 18) (tg := 48) (f := 33) (by decide +kernel) rfl rfl (fun _ => ?_) (fun _ => ?_)
      · exact sim_none
      · refine sim_bind fun r6 h7 => ?_
        refine sim_seg [(.aload_n 0, 0, 0, 0), (.getfield 15, 7, 0, 0), (.aload_n 0, 0, 0, 0), (.getfield 79, 7, 3, 0), (.iload_n 1, 0, 0, 0)] [r6] (q := 42) (L' := [some (.ref a0), some (.int b1)]) (st' := [.int b1, .int (gi w3 a0 3), .ref r6]) (v1 := w3) (by decide +kernel) rfl ⟨⟨(h4.2.2.2.2 _ _ h1), h7⟩, (h4.2.2.2.2 _ _ h1), trivial⟩ ?_
        refine sc_pv (pc3 := 45) (cf_S (idx := 133) [.ref r6, .int (gi w3 a0 3), .int b1] m_l1_fillNull ⟨by decide, by decide⟩ (List.mem_of_getElem? (i := 1173) (by decide +kernel)) rfl (Nat.le_of_ble_eq_true rfl) (by decide +kernel) (Nat.le_of_ble_eq_true rfl) rfl) (ok_l1_fillNull N r6 (gi w3 a0 3) b1 S2 w3) rfl (fun w8 => ?_)
        refine sim_seg [(.goto 31, 0, 0, 0), (.aload_n 0, 0, 0, 0), (.iload_n 1, 0, 0, 0), (.putfield 79, 7, 3, 0)] [] (q := 81) (L' := [some (.ref a0), some (.int b1)]) (st' := []) (v1 := (si w8 a0 3 b1)) (by decide +kernel) rfl ⟨(h4.2.2.2.2 _ _ h1), trivial⟩ ?_
        refine sim_lt (x := (si w8 a0 3 b1)) ?_
        generalize (si w8 a0 3 b1) = w9
        exact sim_vret (by decide +kernel) rfl rfl
    · refine sim_seg [(.aload_n 0, 0, 0, 0), (.getfield 79, 7, 3, 0), (.iload_n 1, 0, 0, 0)] [] (q := 68) (L' := [some (.ref a0), some (.int b1)]) (st' := [.int b1, .int (gi w3 a0 3)]) (v1 := w3) (by decide +kernel) rfl ⟨(h4.2.2.2.2 _ _ h1), trivial⟩ ?_
      refine sim_le (o := 8) (tg := 76) (f := 71) (by decide +kernel) rfl rfl (fun _ => ?_) (fun _ => ?_)
      · refine sim_seg [(.aload_n 0, 0, 0, 0), (.iconst 1, 0, 0, 1), (.putfield 73, 7, 2, 0), (.aload_n 0, 0, 0, 0), (.iload_n 1, 0, 0, 0), (.putfield 79, 7, 3, 0)] [] (q := 81) (L' := [some (.ref a0), some (.int b1)]) (st' := []) (v1 := (si (si w3 a0 2 (J 1)) a0 3 b1)) (by decide +kernel) rfl ⟨⟨(h4.2.2.2.2 _ _ h1), by decide⟩, (h4.2.2.2.2 _ _ h1), trivial⟩ ?_
        refine sim_lt (x := (si (si w3 a0 2 (J 1)) a0 3 b1)) ?_
        generalize (si (si w3 a0 2 (J 1)) a0 3 b1) = w10
        exact sim_vret (by decide +kernel) rfl rfl
      · refine sim_seg [(.aload_n 0, 0, 0, 0), (.iload_n 1, 0, 0, 0), (.putfield 79, 7, 3, 0)] [] (q := 81) (L' := [some (.ref a0), some (.int b1)]) (st' := []) (v1 := (si w3 a0 3 b1)) (by decide +kernel) rfl ⟨(h4.2.2.2.2 _ _ h1), trivial⟩ ?_
        refine sim_lt (x := (si w3 a0 3 b1)) ?_
        generalize (si w3 a0 3 b1) = w11
        exact sim_vret (by decide +kernel) rfl rfl
def B_sb_setLength : bd := (⟨"java/lang/StringBuilder", "setLength", "(I)V"⟩, prog_25_method_89_code, 2, none, [], 7, 5)
theorem m_sb_setLength : mV B_sb_setLength 7 1 := ⟨⟨⟨by decide +kernel, Or.inl rfl⟩, rfl, (List.mem_of_getElem? (i := 898) (by decide +kernel)), by decide +kernel, (List.mem_of_getElem? (i := 101) (by decide +kernel)), ⟨by decide, by decide⟩, by decide⟩, rfl, (by unfold nar; decide +kernel), (List.mem_of_getElem? (i := 896) (by decide +kernel)), rfl, (List.mem_of_getElem? (i := 897) (by decide +kernel))⟩
noncomputable def F_sb_setLength (N : Nat) (a0 : Nat) (b1 : Int32) (S : shp) (v : vl) : Option (shp × vl) :=
  grd (kin S a0 = some (0, 7)) <| (F_ab_setLength N a0 b1 S v).bind fun (S2, w3) => some ((S2, w3))
theorem ok_sb_setLength (N : Nat) (a0 : Nat) (b1 : Int32) (S : shp) (v : vl) : SimK B_sb_setLength 0 (entB (bN B_sb_setLength) [.ref a0, .int b1]) [] S v (F_sb_setLength N a0 b1 S v) (ρgv) := by
  show SimK B_sb_setLength 0 [some (.ref a0), some (.int b1)] [] S v (F_sb_setLength N a0 b1 S v) _
  unfold F_sb_setLength
  refine sim_seg [(.aload_n 0, 0, 0, 0), (.iload_n 1, 0, 0, 0)] [] (q := 2) (L' := [some (.ref a0), some (.int b1)]) (st' := [.int b1, .ref a0]) (v1 := v) (by decide +kernel) rfl trivial ?_
  refine sim_grd fun h1 => ?_
  refine sc_gv (pc3 := 5) (cf_P (idx := 333) [.int b1] m_ab_setLengthP ⟨by decide, by decide⟩ rfl (List.mem_of_getElem? (i := 899) (by decide +kernel)) rfl (Nat.le_of_ble_eq_true rfl) h1 (by decide +kernel) (Nat.le_of_ble_eq_true rfl) rfl) (ok_ab_setLength N a0 b1 S v) rfl (fun S2 w3 h4 => ?_)
  exact sim_vret (by decide +kernel) rfl rfl
def B_gc_printSettings : bd := (⟨"GateCounter", "printSettings", "()I"⟩, prog_1_method_62_code, 2, (some .int), [], 5, 7)
theorem m_gc_printSettings : mV B_gc_printSettings 5 0 := ⟨⟨⟨by decide +kernel, Or.inl rfl⟩, rfl, (List.mem_of_getElem? (i := 894) (by decide +kernel)), by decide +kernel, (List.mem_of_getElem? (i := 95) (by decide +kernel)), ⟨by decide, by decide⟩, by decide⟩, rfl, (by unfold nar; decide +kernel), (List.mem_of_getElem? (i := 892) (by decide +kernel)), rfl, (List.mem_of_getElem? (i := 893) (by decide +kernel))⟩
noncomputable def Y_gc_printSettings_10 (N : Nat)  (i10 : shp → vl → Nat → Int32 → Option (Int32 × shp × vl))  (S : shp) (v : vl) (p0 : Nat) (p1 : Int32) : Option (Int32 × shp × vl) :=
  (if (J 6) < p1 then grd (kin S p0 = some (0, 5)) <| (gr S p0 1).bind fun r9 => grd (kin S r9 = some (0, 7)) <| (F_sb_length r9 S v).bind fun x12 => some ((x12, S, v)) else (if (J 0) < p1 then grd (kin S p0 = some (0, 5)) <| (gr S p0 1).bind fun r14 => grd (kin S r14 = some (0, 7)) <| (F_sb_append r14 (J 44) S v).bind fun (q17, S18, w19) => oc2 q17 none fun r21 => (gr S18 p0 1).bind fun r22 => bx (F_gc_setting p0 p1 S18 w19) (fun _ => none) fun x24 => grd (kin S18 r22 = some (0, 7)) <| (F_sb_append2 N r22 x24 S18 w19).bind fun (q26, S27, w28) => oc2 q26 none fun r30 => i10 S27 w28 p0 (p1 + (J 1)) else grd (kin S p0 = some (0, 5)) <| (gr S p0 1).bind fun r32 => bx (F_gc_setting p0 p1 S v) (fun _ => none) fun x34 => grd (kin S r32 = some (0, 7)) <| (F_sb_append2 N r32 x34 S v).bind fun (q36, S37, w38) => oc2 q36 none fun r40 => i10 S37 w38 p0 (p1 + (J 1))))
noncomputable def K_gc_printSettings_10 (N : Nat)  (n : Nat)  : shp → vl → Nat → Int32 → Option (Int32 × shp × vl) :=
  Nat.rec (motive := fun _ => shp → vl → Nat → Int32 → Option (Int32 × shp × vl)) (fun _ _ _ _ => none) (fun _ i => Y_gc_printSettings_10 N  i ) n
theorem sY_gc_printSettings_10 (N : Nat)  (i10 : shp → vl → Nat → Int32 → Option (Int32 × shp × vl))   (j10 : ∀ (S : shp) (v : vl) (p0 : Nat) (p1 : Int32), SimK B_gc_printSettings 10 [some (.ref p0), some (.int p1)] [] S v (i10 S v p0 p1) (ρgi)) (S : shp) (v : vl) (p0 : Nat) (p1 : Int32) : SimK B_gc_printSettings 10 [some (.ref p0), some (.int p1)] [] S v (Y_gc_printSettings_10 N  i10  S v p0 p1) (ρgi) := by
  unfold Y_gc_printSettings_10
  refine sim_seg [(.iload_n 1, 0, 0, 0), (.bipush 6, 0, 0, 6)] [] (q := 13) (L' := [some (.ref p0), some (.int p1)]) (st' := [.int (J 6), .int p1]) (v1 := v) (by decide +kernel) rfl trivial ?_
  refine sim_gt (o := 36) (tg := 49) (f := 16) (by decide +kernel) rfl rfl (fun _ => ?_) (fun _ => ?_)
  · refine sim_grd fun h8 => ?_
    refine sim_bind fun r9 h10 => ?_
    refine sim_seg [(.aload_n 0, 0, 0, 0), (.getfield 19, 5, 1, 0)] [r9] (q := 53) (L' := [some (.ref p0), some (.int p1)]) (st' := [.ref r9]) (v1 := v) (by decide +kernel) rfl ⟨⟨h8, h10⟩, trivial⟩ ?_
    refine sim_grd fun h11 => ?_
    refine sc_ri (pc3 := 56) (cf_V (idx := 351) (ci := 7) [] m_sb_length (by decide) ⟨by decide, by decide⟩ (List.mem_of_getElem? (i := 1241) (by decide +kernel)) rfl (Nat.le_of_ble_eq_true rfl) h11 (by decide +kernel) (Nat.le_of_ble_eq_true rfl) rfl) (ok_sb_length r9 S v) rfl (fun x12 => ?_)
    exact sim_iret (by decide +kernel) rfl rfl rfl
  · refine sim_seg [(.iload_n 1, 0, 0, 0)] [] (q := 17) (L' := [some (.ref p0), some (.int p1)]) (st' := [.int p1]) (v1 := v) (by decide +kernel) rfl trivial ?_
    refine sim_le0 (o := 13) (tg := 30) (f := 20) (by decide +kernel) rfl rfl (fun _ => ?_) (fun _ => ?_)
    · refine sim_grd fun h13 => ?_
      refine sim_bind fun r14 h15 => ?_
      refine sim_seg [(.aload_n 0, 0, 0, 0), (.getfield 19, 5, 1, 0), (.bipush 44, 0, 0, 44)] [r14] (q := 26) (L' := [some (.ref p0), some (.int p1)]) (st' := [.int (J 44), .ref r14]) (v1 := v) (by decide +kernel) rfl ⟨⟨h13, h15⟩, trivial⟩ ?_
      refine sim_grd fun h16 => ?_
      refine sc_gq (pc3 := 29) (cf_V (idx := 345) (ci := 7) [.int (J 44)] m_sb_append (by decide) ⟨by decide, by decide⟩ (List.mem_of_getElem? (i := 1212) (by decide +kernel)) rfl (Nat.le_of_ble_eq_true rfl) h16 (by decide +kernel) (Nat.le_of_ble_eq_true rfl) rfl) (ok_sb_append r14 (J 44) S v) rfl (fun q17 S18 w19 h20 => ?_)
      refine sim_oc2 (fun _ => sim_none) (fun r21 _ => ?_)
      refine sim_bind fun r22 h23 => ?_
      refine sim_seg [(.pop, 0, 0, 0), (.aload_n 0, 0, 0, 0), (.getfield 19, 5, 1, 0), (.aload_n 0, 0, 0, 0), (.iload_n 1, 0, 0, 0)] [r22] (q := 36) (L' := [some (.ref p0), some (.int p1)]) (st' := [.int p1, .ref p0, .ref r22]) (v1 := w19) (by decide +kernel) rfl ⟨⟨(h20.2.2.2.2 _ _ h13), h23⟩, trivial⟩ ?_
      refine sc_xi (pc3 := 39) (cf_V (idx := 320) (ci := 5) [.int p1] m_gc_setting (by decide) ⟨by decide, by decide⟩ (List.mem_of_getElem? (i := 1225) (by decide +kernel)) rfl (Nat.le_of_ble_eq_true rfl) (h20.2.2.2.2 _ _ h13) (by decide +kernel) (Nat.le_of_ble_eq_true rfl) rfl) (ok_gc_setting p0 p1 S18 w19) rfl rfl (fun k0 b hb => by cases hb) (fun x24 => ?_)
      refine sim_grd fun h25 => ?_
      refine sc_gq (pc3 := 42) (cf_V (idx := 348) (ci := 7) [.int x24] m_sb_append2 (by decide) ⟨by decide, by decide⟩ (List.mem_of_getElem? (i := 1240) (by decide +kernel)) rfl (Nat.le_of_ble_eq_true rfl) h25 (by decide +kernel) (Nat.le_of_ble_eq_true rfl) rfl) (ok_sb_append2 N r22 x24 S18 w19) rfl (fun q26 S27 w28 h29 => ?_)
      refine sim_oc2 (fun _ => sim_none) (fun r30 _ => ?_)
      refine sim_seg [(.pop, 0, 0, 0), (.iinc 1 1, 0, 0, 1)] [] (q := 46) (L' := [some (.ref p0), some (.int (p1 + (J 1)))]) (st' := []) (v1 := w28) (by decide +kernel) rfl trivial ?_
      refine sim_seg [(.goto (-36), 0, 0, 0)] [] (q := 10) (L' := [some (.ref p0), some (.int (p1 + (J 1)))]) (st' := []) (v1 := w28) (by decide +kernel) rfl trivial ?_
      exact j10 S27 w28 p0 (p1 + (J 1))
    · refine sim_grd fun h31 => ?_
      refine sim_bind fun r32 h33 => ?_
      refine sim_seg [(.aload_n 0, 0, 0, 0), (.getfield 19, 5, 1, 0), (.aload_n 0, 0, 0, 0), (.iload_n 1, 0, 0, 0)] [r32] (q := 36) (L' := [some (.ref p0), some (.int p1)]) (st' := [.int p1, .ref p0, .ref r32]) (v1 := v) (by decide +kernel) rfl ⟨⟨h31, h33⟩, trivial⟩ ?_
      refine sc_xi (pc3 := 39) (cf_V (idx := 320) (ci := 5) [.int p1] m_gc_setting (by decide) ⟨by decide, by decide⟩ (List.mem_of_getElem? (i := 1225) (by decide +kernel)) rfl (Nat.le_of_ble_eq_true rfl) h31 (by decide +kernel) (Nat.le_of_ble_eq_true rfl) rfl) (ok_gc_setting p0 p1 S v) rfl rfl (fun k0 b hb => by cases hb) (fun x34 => ?_)
      refine sim_grd fun h35 => ?_
      refine sc_gq (pc3 := 42) (cf_V (idx := 348) (ci := 7) [.int x34] m_sb_append2 (by decide) ⟨by decide, by decide⟩ (List.mem_of_getElem? (i := 1240) (by decide +kernel)) rfl (Nat.le_of_ble_eq_true rfl) h35 (by decide +kernel) (Nat.le_of_ble_eq_true rfl) rfl) (ok_sb_append2 N r32 x34 S v) rfl (fun q36 S37 w38 h39 => ?_)
      refine sim_oc2 (fun _ => sim_none) (fun r40 _ => ?_)
      refine sim_seg [(.pop, 0, 0, 0), (.iinc 1 1, 0, 0, 1)] [] (q := 46) (L' := [some (.ref p0), some (.int (p1 + (J 1)))]) (st' := []) (v1 := w38) (by decide +kernel) rfl trivial ?_
      refine sim_seg [(.goto (-36), 0, 0, 0)] [] (q := 10) (L' := [some (.ref p0), some (.int (p1 + (J 1)))]) (st' := []) (v1 := w38) (by decide +kernel) rfl trivial ?_
      exact j10 S37 w38 p0 (p1 + (J 1))
theorem sR_gc_printSettings_10 (N : Nat)    (n : Nat) : ∀ (S : shp) (v : vl) (p0 : Nat) (p1 : Int32), SimK B_gc_printSettings 10 [some (.ref p0), some (.int p1)] [] S v (K_gc_printSettings_10 N  n  S v p0 p1) (ρgi) := by
  induction n with
  | zero => intro S v p0 p1; exact sim_none
  | succ k ih => intro S v p0 p1; exact sY_gc_printSettings_10 N   _   ih S v p0 p1
theorem sK_gc_printSettings_10 (N : Nat)   (n : Nat) (S : shp) (v : vl) (p0 : Nat) (p1 : Int32) : SimK B_gc_printSettings 10 [some (.ref p0), some (.int p1)] [] S v (K_gc_printSettings_10 N  n  S v p0 p1) (ρgi) := sR_gc_printSettings_10 N    n  S v p0 p1
noncomputable def F_gc_printSettings (N : Nat) (a0 : Nat) (S : shp) (v : vl) : Option (Int32 × shp × vl) :=
  grd (kin S a0 = some (0, 5)) <| (gr S a0 1).bind fun r2 => grd (kin S r2 = some (0, 7)) <| (F_sb_setLength N r2 (J 0) S v).bind fun (S5, w6) => K_gc_printSettings_10 N  N S5 w6 a0 (J 0)
theorem ok_gc_printSettings (N : Nat) (a0 : Nat) (S : shp) (v : vl) : SimK B_gc_printSettings 0 (entB (bN B_gc_printSettings) [.ref a0]) [] S v (F_gc_printSettings N a0 S v) (ρgi) := by
  show SimK B_gc_printSettings 0 [some (.ref a0), none] [] S v (F_gc_printSettings N a0 S v) _
  unfold F_gc_printSettings
  refine sim_grd fun h1 => ?_
  refine sim_bind fun r2 h3 => ?_
  refine sim_seg [(.aload_n 0, 0, 0, 0), (.getfield 19, 5, 1, 0), (.iconst 0, 0, 0, 0)] [r2] (q := 5) (L' := [some (.ref a0), none]) (st' := [.int (J 0), .ref r2]) (v1 := v) (by decide +kernel) rfl ⟨⟨h1, h3⟩, trivial⟩ ?_
  refine sim_grd fun h4 => ?_
  refine sc_gv (pc3 := 8) (cf_V (idx := 342) (ci := 7) [.int (J 0)] m_sb_setLength (by decide) ⟨by decide, by decide⟩ (List.mem_of_getElem? (i := 895) (by decide +kernel)) rfl (Nat.le_of_ble_eq_true rfl) h4 (by decide +kernel) (Nat.le_of_ble_eq_true rfl) rfl) (ok_sb_setLength N r2 (J 0) S v) rfl (fun S5 w6 h7 => ?_)
  refine sim_seg [(.iconst 0, 0, 0, 0), (.istore_n 1, 0, 0, 0)] [] (q := 10) (L' := [some (.ref a0), some (.int (J 0))]) (st' := []) (v1 := w6) (by decide +kernel) rfl trivial ?_
  exact sK_gc_printSettings_10 N N S5 w6 a0 (J 0)
def B_gc_printSignal : bd := (⟨"GateCounter", "printSignal", "()I"⟩, prog_1_method_63_code, 2, (some .int), [], 5, 6)
theorem m_gc_printSignal : mV B_gc_printSignal 5 0 := ⟨⟨⟨by decide +kernel, Or.inl rfl⟩, rfl, (List.mem_of_getElem? (i := 1245) (by decide +kernel)), by decide +kernel, (List.mem_of_getElem? (i := 95) (by decide +kernel)), ⟨by decide, by decide⟩, by decide⟩, rfl, (by unfold nar; decide +kernel), (List.mem_of_getElem? (i := 1243) (by decide +kernel)), rfl, (List.mem_of_getElem? (i := 1244) (by decide +kernel))⟩
noncomputable def K_gc_printSignal_38 (N : Nat) (i10 : shp → vl → Nat → Int32 → Option (Int32 × shp × vl)) (S : shp) (v : vl) (p0 : Nat) (p1 : Int32) : Option (Int32 × shp × vl) :=
  grd (kin S p0 = some (0, 5)) <| (gr S p0 1).bind fun r24 => (gr S p0 5).bind fun r26 => grd (kin S r26 = some (0, 4)) <| (gr S r26 7).bind fun r29 => grd (kin S r29 = some (0, 3)) <| (gr S r29 10).bind fun r32 => grd (kin S r32 = some (1, 8)) <| grd (vp_in p1 (alen S r32)) <| grd (kin S r24 = some (0, 7)) <| (F_sb_append2 N r24 (gi v r32 (Int32.toNatClampNeg p1)) S v).bind fun (q37, S38, w39) => oc2 q37 none fun r41 => grd (kin S38 r41 = some (0, 7)) <| (F_sb_append r41 (J 47) S38 w39).bind fun (q43, S44, w45) => oc2 q43 none fun r47 => (gr S44 p0 5).bind fun r48 => grd (kin S44 r48 = some (0, 4)) <| (gr S44 r48 7).bind fun r51 => grd (kin S44 r51 = some (0, 3)) <| (gr S44 r51 11).bind fun r54 => grd (kin S44 r54 = some (1, 8)) <| grd (vp_in p1 (alen S44 r54)) <| grd (kin S44 r47 = some (0, 7)) <| (F_sb_append2 N r47 (gi w45 r54 (Int32.toNatClampNeg p1)) S44 w45).bind fun (q59, S60, w61) => oc2 q59 none fun r63 => (gr S60 p0 5).bind fun r64 => grd (kin S60 r64 = some (0, 4)) <| (gr S60 r64 7).bind fun r67 => grd (kin S60 r67 = some (0, 3)) <| (if p1 < (gi w61 r67 9) then (gr S60 p0 1).bind fun r70 => grd (kin S60 r70 = some (0, 7)) <| (F_sb_append r70 (J 42) S60 w61).bind fun (q73, S74, w75) => oc2 q73 none fun r77 => i10 S74 w75 p0 (p1 + (J 1)) else i10 S60 w61 p0 (p1 + (J 1)))
theorem sK_gc_printSignal_38 (N : Nat) (i10 : shp → vl → Nat → Int32 → Option (Int32 × shp × vl)) (j10 : ∀ (S : shp) (v : vl) (p0 : Nat) (p1 : Int32), SimK B_gc_printSignal 10 [some (.ref p0), some (.int p1)] [] S v (i10 S v p0 p1) (ρgi)) (S : shp) (v : vl) (p0 : Nat) (p1 : Int32) : SimK B_gc_printSignal 38 [some (.ref p0), some (.int p1)] [] S v (K_gc_printSignal_38 N i10 S v p0 p1) (ρgi) := by
  unfold K_gc_printSignal_38
  refine sim_grd fun h23 => ?_
  refine sim_bind fun r24 h25 => ?_
  refine sim_bind fun r26 h27 => ?_
  refine sim_grd fun h28 => ?_
  refine sim_bind fun r29 h30 => ?_
  refine sim_grd fun h31 => ?_
  refine sim_bind fun r32 h33 => ?_
  refine sim_grd fun h34 => ?_
  refine sim_grd fun h35 => ?_
  refine sim_seg [(.aload_n 0, 0, 0, 0), (.getfield 19, 5, 1, 0), (.aload_n 0, 0, 0, 0), (.getfield 26, 5, 5, 0), (.getfield 69, 4, 7, 0), (.getfield 159, 3, 10, 0), (.iload_n 1, 0, 0, 0), (.iaload, 0, 0, 0)] [r24, r26, r29, r32] (q := 54) (L' := [some (.ref p0), some (.int p1)]) (st' := [.int (gi v r32 (Int32.toNatClampNeg p1)), .ref r24]) (v1 := v) (by decide +kernel) rfl ⟨⟨h23, h25⟩, ⟨h23, h27⟩, ⟨h28, h30⟩, ⟨h31, h33⟩, ⟨(Or.inl (kin_alen h34)), h35⟩, trivial⟩ ?_
  refine sim_grd fun h36 => ?_
  refine sc_gq (pc3 := 57) (cf_V (idx := 348) (ci := 7) [.int (gi v r32 (Int32.toNatClampNeg p1))] m_sb_append2 (by decide) ⟨by decide, by decide⟩ (List.mem_of_getElem? (i := 1240) (by decide +kernel)) rfl (Nat.le_of_ble_eq_true rfl) h36 (by decide +kernel) (Nat.le_of_ble_eq_true rfl) rfl) (ok_sb_append2 N r24 (gi v r32 (Int32.toNatClampNeg p1)) S v) rfl (fun q37 S38 w39 h40 => ?_)
  refine sim_oc2 (fun _ => sim_none) (fun r41 _ => ?_)
  refine sim_seg [(.bipush 47, 0, 0, 47)] [] (q := 59) (L' := [some (.ref p0), some (.int p1)]) (st' := [.int (J 47), .ref r41]) (v1 := w39) (by decide +kernel) rfl trivial ?_
  refine sim_grd fun h42 => ?_
  refine sc_gq (pc3 := 62) (cf_V (idx := 345) (ci := 7) [.int (J 47)] m_sb_append (by decide) ⟨by decide, by decide⟩ (List.mem_of_getElem? (i := 1212) (by decide +kernel)) rfl (Nat.le_of_ble_eq_true rfl) h42 (by decide +kernel) (Nat.le_of_ble_eq_true rfl) rfl) (ok_sb_append r41 (J 47) S38 w39) rfl (fun q43 S44 w45 h46 => ?_)
  refine sim_oc2 (fun _ => sim_none) (fun r47 _ => ?_)
  refine sim_bind fun r48 h49 => ?_
  refine sim_grd fun h50 => ?_
  refine sim_bind fun r51 h52 => ?_
  refine sim_grd fun h53 => ?_
  refine sim_bind fun r54 h55 => ?_
  refine sim_grd fun h56 => ?_
  refine sim_grd fun h57 => ?_
  refine sim_seg [(.aload_n 0, 0, 0, 0), (.getfield 26, 5, 5, 0), (.getfield 69, 4, 7, 0), (.getfield 163, 3, 11, 0), (.iload_n 1, 0, 0, 0), (.iaload, 0, 0, 0)] [r48, r51, r54] (q := 74) (L' := [some (.ref p0), some (.int p1)]) (st' := [.int (gi w45 r54 (Int32.toNatClampNeg p1)), .ref r47]) (v1 := w45) (by decide +kernel) rfl ⟨⟨(h46.2.2.2.2 _ _ (h40.2.2.2.2 _ _ h23)), h49⟩, ⟨h50, h52⟩, ⟨h53, h55⟩, ⟨(Or.inl (kin_alen h56)), h57⟩, trivial⟩ ?_
  refine sim_grd fun h58 => ?_
  refine sc_gq (pc3 := 77) (cf_V (idx := 348) (ci := 7) [.int (gi w45 r54 (Int32.toNatClampNeg p1))] m_sb_append2 (by decide) ⟨by decide, by decide⟩ (List.mem_of_getElem? (i := 1240) (by decide +kernel)) rfl (Nat.le_of_ble_eq_true rfl) h58 (by decide +kernel) (Nat.le_of_ble_eq_true rfl) rfl) (ok_sb_append2 N r47 (gi w45 r54 (Int32.toNatClampNeg p1)) S44 w45) rfl (fun q59 S60 w61 h62 => ?_)
  refine sim_oc2 (fun _ => sim_none) (fun r63 _ => ?_)
  refine sim_bind fun r64 h65 => ?_
  refine sim_grd fun h66 => ?_
  refine sim_bind fun r67 h68 => ?_
  refine sim_grd fun h69 => ?_
  refine sim_seg [(.pop, 0, 0, 0), (.iload_n 1, 0, 0, 0), (.aload_n 0, 0, 0, 0), (.getfield 26, 5, 5, 0), (.getfield 69, 4, 7, 0), (.getfield 100, 3, 9, 0)] [r64, r67] (q := 89) (L' := [some (.ref p0), some (.int p1)]) (st' := [.int (gi w61 r67 9), .int p1]) (v1 := w61) (by decide +kernel) rfl ⟨⟨(h62.2.2.2.2 _ _ (h46.2.2.2.2 _ _ (h40.2.2.2.2 _ _ h23))), h65⟩, ⟨h66, h68⟩, h69, trivial⟩ ?_
  refine sim_ge (o := 13) (tg := 102) (f := 92) (by decide +kernel) rfl rfl (fun _ => ?_) (fun _ => ?_)
  · refine sim_bind fun r70 h71 => ?_
    refine sim_seg [(.aload_n 0, 0, 0, 0), (.getfield 19, 5, 1, 0), (.bipush 42, 0, 0, 42)] [r70] (q := 98) (L' := [some (.ref p0), some (.int p1)]) (st' := [.int (J 42), .ref r70]) (v1 := w61) (by decide +kernel) rfl ⟨⟨(h62.2.2.2.2 _ _ (h46.2.2.2.2 _ _ (h40.2.2.2.2 _ _ h23))), h71⟩, trivial⟩ ?_
    refine sim_grd fun h72 => ?_
    refine sc_gq (pc3 := 101) (cf_V (idx := 345) (ci := 7) [.int (J 42)] m_sb_append (by decide) ⟨by decide, by decide⟩ (List.mem_of_getElem? (i := 1212) (by decide +kernel)) rfl (Nat.le_of_ble_eq_true rfl) h72 (by decide +kernel) (Nat.le_of_ble_eq_true rfl) rfl) (ok_sb_append r70 (J 42) S60 w61) rfl (fun q73 S74 w75 h76 => ?_)
    refine sim_oc2 (fun _ => sim_none) (fun r77 _ => ?_)
    refine sim_seg [(.pop, 0, 0, 0), (.iinc 1 1, 0, 0, 1)] [] (q := 105) (L' := [some (.ref p0), some (.int (p1 + (J 1)))]) (st' := []) (v1 := w75) (by decide +kernel) rfl trivial ?_
    refine sim_seg [(.goto (-95), 0, 0, 0)] [] (q := 10) (L' := [some (.ref p0), some (.int (p1 + (J 1)))]) (st' := []) (v1 := w75) (by decide +kernel) rfl trivial ?_
    exact j10 S74 w75 p0 (p1 + (J 1))
  · refine sim_seg [(.iinc 1 1, 0, 0, 1)] [] (q := 105) (L' := [some (.ref p0), some (.int (p1 + (J 1)))]) (st' := []) (v1 := w61) (by decide +kernel) rfl trivial ?_
    refine sim_seg [(.goto (-95), 0, 0, 0)] [] (q := 10) (L' := [some (.ref p0), some (.int (p1 + (J 1)))]) (st' := []) (v1 := w61) (by decide +kernel) rfl trivial ?_
    exact j10 S60 w61 p0 (p1 + (J 1))
noncomputable def Y_gc_printSignal_10 (N : Nat)  (i10 : shp → vl → Nat → Int32 → Option (Int32 × shp × vl))  (S : shp) (v : vl) (p0 : Nat) (p1 : Int32) : Option (Int32 × shp × vl) :=
  grd (kin S p0 = some (0, 5)) <| (gr S p0 5).bind fun r9 => grd (kin S r9 = some (0, 4)) <| (gr S r9 7).bind fun r12 => grd (kin S r12 = some (0, 3)) <| (if p1 < (gi v r12 8) then (if (J 0) < p1 then (gr S p0 1).bind fun r15 => grd (kin S r15 = some (0, 7)) <| (F_sb_append r15 (J 32) S v).bind fun (q18, S19, w20) => oc2 q18 none fun r22 => K_gc_printSignal_38 N i10 S19 w20 p0 p1 else K_gc_printSignal_38 N i10 S v p0 p1) else (if (gi v r12 8) = (J 0) then (gr S p0 1).bind fun r78 => grd (kin S r78 = some (0, 7)) <| (F_sb_append r78 (J 45) S v).bind fun (q81, S82, w83) => oc2 q81 none fun r85 => (gr S82 p0 1).bind fun r86 => grd (kin S82 r86 = some (0, 7)) <| (F_sb_length r86 S82 w83).bind fun x89 => some ((x89, S82, w83)) else (gr S p0 1).bind fun r90 => grd (kin S r90 = some (0, 7)) <| (F_sb_length r90 S v).bind fun x93 => some ((x93, S, v))))
noncomputable def K_gc_printSignal_10 (N : Nat)  (n : Nat)  : shp → vl → Nat → Int32 → Option (Int32 × shp × vl) :=
  Nat.rec (motive := fun _ => shp → vl → Nat → Int32 → Option (Int32 × shp × vl)) (fun _ _ _ _ => none) (fun _ i => Y_gc_printSignal_10 N  i ) n
theorem sY_gc_printSignal_10 (N : Nat)  (i10 : shp → vl → Nat → Int32 → Option (Int32 × shp × vl))   (j10 : ∀ (S : shp) (v : vl) (p0 : Nat) (p1 : Int32), SimK B_gc_printSignal 10 [some (.ref p0), some (.int p1)] [] S v (i10 S v p0 p1) (ρgi)) (S : shp) (v : vl) (p0 : Nat) (p1 : Int32) : SimK B_gc_printSignal 10 [some (.ref p0), some (.int p1)] [] S v (Y_gc_printSignal_10 N  i10  S v p0 p1) (ρgi) := by
  unfold Y_gc_printSignal_10
  refine sim_grd fun h8 => ?_
  refine sim_bind fun r9 h10 => ?_
  refine sim_grd fun h11 => ?_
  refine sim_bind fun r12 h13 => ?_
  refine sim_grd fun h14 => ?_
  refine sim_seg [(.iload_n 1, 0, 0, 0), (.aload_n 0, 0, 0, 0), (.getfield 26, 5, 5, 0), (.getfield 69, 4, 7, 0), (.getfield 73, 3, 8, 0)] [r9, r12] (q := 21) (L' := [some (.ref p0), some (.int p1)]) (st' := [.int (gi v r12 8), .int p1]) (v1 := v) (by decide +kernel) rfl ⟨⟨h8, h10⟩, ⟨h11, h13⟩, h14, trivial⟩ ?_
  refine sim_ge (o := 87) (tg := 108) (f := 24) (by decide +kernel) rfl rfl (fun _ => ?_) (fun _ => ?_)
  · refine sim_seg [(.iload_n 1, 0, 0, 0)] [] (q := 25) (L' := [some (.ref p0), some (.int p1)]) (st' := [.int p1]) (v1 := v) (by decide +kernel) rfl trivial ?_
    refine sim_le0 (o := 13) (tg := 38) (f := 28) (by decide +kernel) rfl rfl (fun _ => ?_) (fun _ => ?_)
    · refine sim_bind fun r15 h16 => ?_
      refine sim_seg [(.aload_n 0, 0, 0, 0), (.getfield 19, 5, 1, 0), (.bipush 32, 0, 0, 32)] [r15] (q := 34) (L' := [some (.ref p0), some (.int p1)]) (st' := [.int (J 32), .ref r15]) (v1 := v) (by decide +kernel) rfl ⟨⟨h8, h16⟩, trivial⟩ ?_
      refine sim_grd fun h17 => ?_
      refine sc_gq (pc3 := 37) (cf_V (idx := 345) (ci := 7) [.int (J 32)] m_sb_append (by decide) ⟨by decide, by decide⟩ (List.mem_of_getElem? (i := 1212) (by decide +kernel)) rfl (Nat.le_of_ble_eq_true rfl) h17 (by decide +kernel) (Nat.le_of_ble_eq_true rfl) rfl) (ok_sb_append r15 (J 32) S v) rfl (fun q18 S19 w20 h21 => ?_)
      refine sim_oc2 (fun _ => sim_none) (fun r22 _ => ?_)
      refine sim_seg [(.pop, 0, 0, 0)] [] (q := 38) (L' := [some (.ref p0), some (.int p1)]) (st' := []) (v1 := w20) (by decide +kernel) rfl trivial ?_
      exact sK_gc_printSignal_38 N i10 j10 S19 w20 p0 p1
    · exact sK_gc_printSignal_38 N i10 j10 S v p0 p1
  · refine sim_seg [(.aload_n 0, 0, 0, 0), (.getfield 26, 5, 5, 0), (.getfield 69, 4, 7, 0), (.getfield 73, 3, 8, 0)] [r9, r12] (q := 118) (L' := [some (.ref p0), some (.int p1)]) (st' := [.int (gi v r12 8)]) (v1 := v) (by decide +kernel) rfl ⟨⟨h8, h10⟩, ⟨h11, h13⟩, h14, trivial⟩ ?_
    refine sim_ne0 (o := 13) (tg := 131) (f := 121) (by decide +kernel) rfl rfl (fun _ => ?_) (fun _ => ?_)
    · refine sim_bind fun r78 h79 => ?_
      refine sim_seg [(.aload_n 0, 0, 0, 0), (.getfield 19, 5, 1, 0), (.bipush 45, 0, 0, 45)] [r78] (q := 127) (L' := [some (.ref p0), some (.int p1)]) (st' := [.int (J 45), .ref r78]) (v1 := v) (by decide +kernel) rfl ⟨⟨h8, h79⟩, trivial⟩ ?_
      refine sim_grd fun h80 => ?_
      refine sc_gq (pc3 := 130) (cf_V (idx := 345) (ci := 7) [.int (J 45)] m_sb_append (by decide) ⟨by decide, by decide⟩ (List.mem_of_getElem? (i := 1212) (by decide +kernel)) rfl (Nat.le_of_ble_eq_true rfl) h80 (by decide +kernel) (Nat.le_of_ble_eq_true rfl) rfl) (ok_sb_append r78 (J 45) S v) rfl (fun q81 S82 w83 h84 => ?_)
      refine sim_oc2 (fun _ => sim_none) (fun r85 _ => ?_)
      refine sim_bind fun r86 h87 => ?_
      refine sim_seg [(.pop, 0, 0, 0), (.aload_n 0, 0, 0, 0), (.getfield 19, 5, 1, 0)] [r86] (q := 135) (L' := [some (.ref p0), some (.int p1)]) (st' := [.ref r86]) (v1 := w83) (by decide +kernel) rfl ⟨⟨(h84.2.2.2.2 _ _ h8), h87⟩, trivial⟩ ?_
      refine sim_grd fun h88 => ?_
      refine sc_ri (pc3 := 138) (cf_V (idx := 351) (ci := 7) [] m_sb_length (by decide) ⟨by decide, by decide⟩ (List.mem_of_getElem? (i := 1241) (by decide +kernel)) rfl (Nat.le_of_ble_eq_true rfl) h88 (by decide +kernel) (Nat.le_of_ble_eq_true rfl) rfl) (ok_sb_length r86 S82 w83) rfl (fun x89 => ?_)
      exact sim_iret (by decide +kernel) rfl rfl rfl
    · refine sim_bind fun r90 h91 => ?_
      refine sim_seg [(.aload_n 0, 0, 0, 0), (.getfield 19, 5, 1, 0)] [r90] (q := 135) (L' := [some (.ref p0), some (.int p1)]) (st' := [.ref r90]) (v1 := v) (by decide +kernel) rfl ⟨⟨h8, h91⟩, trivial⟩ ?_
      refine sim_grd fun h92 => ?_
      refine sc_ri (pc3 := 138) (cf_V (idx := 351) (ci := 7) [] m_sb_length (by decide) ⟨by decide, by decide⟩ (List.mem_of_getElem? (i := 1241) (by decide +kernel)) rfl (Nat.le_of_ble_eq_true rfl) h92 (by decide +kernel) (Nat.le_of_ble_eq_true rfl) rfl) (ok_sb_length r90 S v) rfl (fun x93 => ?_)
      exact sim_iret (by decide +kernel) rfl rfl rfl
theorem sR_gc_printSignal_10 (N : Nat)    (n : Nat) : ∀ (S : shp) (v : vl) (p0 : Nat) (p1 : Int32), SimK B_gc_printSignal 10 [some (.ref p0), some (.int p1)] [] S v (K_gc_printSignal_10 N  n  S v p0 p1) (ρgi) := by
  induction n with
  | zero => intro S v p0 p1; exact sim_none
  | succ k ih => intro S v p0 p1; exact sY_gc_printSignal_10 N   _   ih S v p0 p1
theorem sK_gc_printSignal_10 (N : Nat)   (n : Nat) (S : shp) (v : vl) (p0 : Nat) (p1 : Int32) : SimK B_gc_printSignal 10 [some (.ref p0), some (.int p1)] [] S v (K_gc_printSignal_10 N  n  S v p0 p1) (ρgi) := sR_gc_printSignal_10 N    n  S v p0 p1
noncomputable def F_gc_printSignal (N : Nat) (a0 : Nat) (S : shp) (v : vl) : Option (Int32 × shp × vl) :=
  grd (kin S a0 = some (0, 5)) <| (gr S a0 1).bind fun r2 => grd (kin S r2 = some (0, 7)) <| (F_sb_setLength N r2 (J 0) S v).bind fun (S5, w6) => K_gc_printSignal_10 N  N S5 w6 a0 (J 0)
theorem ok_gc_printSignal (N : Nat) (a0 : Nat) (S : shp) (v : vl) : SimK B_gc_printSignal 0 (entB (bN B_gc_printSignal) [.ref a0]) [] S v (F_gc_printSignal N a0 S v) (ρgi) := by
  show SimK B_gc_printSignal 0 [some (.ref a0), none] [] S v (F_gc_printSignal N a0 S v) _
  unfold F_gc_printSignal
  refine sim_grd fun h1 => ?_
  refine sim_bind fun r2 h3 => ?_
  refine sim_seg [(.aload_n 0, 0, 0, 0), (.getfield 19, 5, 1, 0), (.iconst 0, 0, 0, 0)] [r2] (q := 5) (L' := [some (.ref a0), none]) (st' := [.int (J 0), .ref r2]) (v1 := v) (by decide +kernel) rfl ⟨⟨h1, h3⟩, trivial⟩ ?_
  refine sim_grd fun h4 => ?_
  refine sc_gv (pc3 := 8) (cf_V (idx := 342) (ci := 7) [.int (J 0)] m_sb_setLength (by decide) ⟨by decide, by decide⟩ (List.mem_of_getElem? (i := 895) (by decide +kernel)) rfl (Nat.le_of_ble_eq_true rfl) h4 (by decide +kernel) (Nat.le_of_ble_eq_true rfl) rfl) (ok_sb_setLength N r2 (J 0) S v) rfl (fun S5 w6 h7 => ?_)
  refine sim_seg [(.iconst 0, 0, 0, 0), (.istore_n 1, 0, 0, 0)] [] (q := 10) (L' := [some (.ref a0), some (.int (J 0))]) (st' := []) (v1 := w6) (by decide +kernel) rfl trivial ?_
  exact sK_gc_printSignal_10 N N S5 w6 a0 (J 0)
def B_ab_charAt : bd := (⟨"java/lang/AbstractStringBuilder", "charAt", "(I)C"⟩, prog_10_method_14_code, 5, (some .char), [], 8, 2)
theorem m_ab_charAtP : mP B_ab_charAt 1 := ⟨⟨⟨by decide +kernel, Or.inl rfl⟩, rfl, (List.mem_of_getElem? (i := 1256) (by decide +kernel)), by decide +kernel, (List.mem_of_getElem? (i := 100) (by decide +kernel)), ⟨by decide, by decide⟩, by decide⟩, rfl, (by unfold nar; decide +kernel), (List.mem_of_getElem? (i := 1255) (by decide +kernel)), (List.mem_of_getElem? (i := 2245) (by decide +kernel)), (List.mem_of_getElem? (i := 373) (by decide +kernel)), by decide⟩
noncomputable def F_ab_charAt (a0 : Nat) (b1 : Int32) (S : shp) (v : vl) : Option Int32 :=
  grd (kin S a0 = some (0, 7)) <| (gr S a0 0).bind fun r2 => grd (isArr (kin S r2)) <| (F_ma_min (gi v a0 3) ((nI (alen S r2)) >>> ((gi v a0 1) &&& 31)) S v).bind fun x5 => (F_js_checkIndex b1 x5 S v).bind fun _ => (if (gi v a0 1) = (J 0) then grd ((kin S r2 = some (2, alen S r2) ∨ kin S r2 = some (12, alen S r2))) <| grd (vp_in b1 (alen S r2)) <| lt (UInt32.toInt32 (Int32.toUInt32 ((gi v r2 (Int32.toNatClampNeg b1)) &&& (J 255)) % 65536)) fun x8 => grd (narrow .char (.int x8) = .int x8) <| some (x8) else none)
theorem ok_ab_charAt (a0 : Nat) (b1 : Int32) (S : shp) (v : vl) : SimK B_ab_charAt 0 (entB (bN B_ab_charAt) [.ref a0, .int b1]) [] S v (F_ab_charAt a0 b1 S v) (ρri S v) := by
  show SimK B_ab_charAt 0 [some (.ref a0), some (.int b1), none, none, none] [] S v (F_ab_charAt a0 b1 S v) _
  unfold F_ab_charAt
  refine sim_grd fun h1 => ?_
  refine sim_seg [(.aload_n 0, 0, 0, 0), (.getfield 22, 7, 1, 0), (.istore_n 2, 0, 0, 0)] [] (q := 5) (L' := [some (.ref a0), some (.int b1), some (.int (gi v a0 1)), none, none]) (st' := []) (v1 := v) (by decide +kernel) rfl ⟨h1, trivial⟩ ?_
  refine sim_bind fun r2 h3 => ?_
  refine sim_seg [(.aload_n 0, 0, 0, 0), (.getfield 15, 7, 0, 0), (.astore_n 3, 0, 0, 0)] [r2] (q := 10) (L' := [some (.ref a0), some (.int b1), some (.int (gi v a0 1)), some (.ref r2), none]) (st' := []) (v1 := v) (by decide +kernel) rfl ⟨⟨h1, h3⟩, trivial⟩ ?_
  refine sim_grd fun h4 => ?_
  refine sim_seg [(.aload_n 0, 0, 0, 0), (.getfield 79, 7, 3, 0), (.aload_n 3, 0, 0, 0), (.arraylength, 0, 0, 0), (.iload_n 2, 0, 0, 0), (.ishr, 0, 0, 0)] [] (q := 18) (L' := [some (.ref a0), some (.int b1), some (.int (gi v a0 1)), some (.ref r2), none]) (st' := [.int ((nI (alen S r2)) >>> ((gi v a0 1) &&& 31)), .int (gi v a0 3)]) (v1 := v) (by decide +kernel) rfl ⟨h1, h4, trivial⟩ ?_
  refine sc_ri (pc3 := 21) (cf_S (idx := 138) [.int (gi v a0 3), .int ((nI (alen S r2)) >>> ((gi v a0 1) &&& 31))] m_ma_min ⟨by decide, by decide⟩ (List.mem_of_getElem? (i := 1257) (by decide +kernel)) rfl (Nat.le_of_ble_eq_true rfl) (by decide +kernel) (Nat.le_of_ble_eq_true rfl) rfl) (ok_ma_min (gi v a0 3) ((nI (alen S r2)) >>> ((gi v a0 1) &&& 31)) S v) rfl (fun x5 => ?_)
  refine sim_seg [(.istore 4, 0, 0, 0)] [] (q := 23) (L' := [some (.ref a0), some (.int b1), some (.int (gi v a0 1)), some (.ref r2), some (.int x5)]) (st' := []) (v1 := v) (by decide +kernel) rfl trivial ?_
  refine sim_seg [(.iload_n 1, 0, 0, 0), (.iload 4, 0, 0, 0)] [] (q := 26) (L' := [some (.ref a0), some (.int b1), some (.int (gi v a0 1)), some (.ref r2), some (.int x5)]) (st' := [.int x5, .int b1]) (v1 := v) (by decide +kernel) rfl trivial ?_
  refine sc_rv (pc3 := 29) (cf_S (idx := 144) [.int b1, .int x5] m_js_checkIndex ⟨by decide, by decide⟩ (List.mem_of_getElem? (i := 1258) (by decide +kernel)) rfl (Nat.le_of_ble_eq_true rfl) (by decide +kernel) (Nat.le_of_ble_eq_true rfl) rfl) (ok_js_checkIndex b1 x5 S v) rfl (fun _ => ?_)
  refine sim_seg [(.iload_n 2, 0, 0, 0)] [] (q := 30) (L' := [some (.ref a0), some (.int b1), some (.int (gi v a0 1)), some (.ref r2), some (.int x5)]) (st' := [.int (gi v a0 1)]) (v1 := v) (by decide +kernel) rfl trivial ?_
  refine sim_ne0 (o := 12) (tg := 42) (f := 33) (by decide +kernel) rfl rfl (fun _ => ?_) (fun _ => ?_)
  · refine sim_grd fun h6 => ?_
    refine sim_grd fun h7 => ?_
    refine sim_seg [(.aload_n 3, 0, 0, 0), (.iload_n 1, 0, 0, 0), (.baload, 0, 0, 0), (.sipush 255, 0, 0, 255), (.iand, 0, 0, 0), (.i2c, 0, 0, 0)] [] (q := 41) (L' := [some (.ref a0), some (.int b1), some (.int (gi v a0 1)), some (.ref r2), some (.int x5)]) (st' := [.int (UInt32.toInt32 (Int32.toUInt32 ((gi v r2 (Int32.toNatClampNeg b1)) &&& (J 255)) % 65536))]) (v1 := v) (by decide +kernel) rfl ⟨⟨h6, h7⟩, trivial⟩ ?_
    refine sim_nm (UInt32.toInt32 (Int32.toUInt32 ((gi v r2 (Int32.toNatClampNeg b1)) &&& (J 255)) % 65536)) (fun x8 => [some (.ref a0), some (.int b1), some (.int (gi v a0 1)), some (.ref r2), some (.int x5)]) (fun x8 => [.int x8]) (fun x8 => ?_) rfl rfl
    refine sim_grd fun h9 => ?_
    exact sim_iret (by decide +kernel) rfl h9 rfl
  · exact sim_none
def B_sb_charAt : bd := (⟨"java/lang/StringBuilder", "charAt", "(I)C"⟩, prog_25_method_88_code, 2, (some .char), [], 7, 3)
theorem m_sb_charAt : mV B_sb_charAt 7 1 := ⟨⟨⟨by decide +kernel, Or.inl rfl⟩, rfl, (List.mem_of_getElem? (i := 1253) (by decide +kernel)), by decide +kernel, (List.mem_of_getElem? (i := 101) (by decide +kernel)), ⟨by decide, by decide⟩, by decide⟩, rfl, (by unfold nar; decide +kernel), (List.mem_of_getElem? (i := 1251) (by decide +kernel)), rfl, (List.mem_of_getElem? (i := 1252) (by decide +kernel))⟩
noncomputable def F_sb_charAt (a0 : Nat) (b1 : Int32) (S : shp) (v : vl) : Option Int32 :=
  grd (kin S a0 = some (0, 7)) <| (F_ab_charAt a0 b1 S v).bind fun x2 => grd (narrow .char (.int x2) = .int x2) <| some (x2)
theorem ok_sb_charAt (a0 : Nat) (b1 : Int32) (S : shp) (v : vl) : SimK B_sb_charAt 0 (entB (bN B_sb_charAt) [.ref a0, .int b1]) [] S v (F_sb_charAt a0 b1 S v) (ρri S v) := by
  show SimK B_sb_charAt 0 [some (.ref a0), some (.int b1)] [] S v (F_sb_charAt a0 b1 S v) _
  unfold F_sb_charAt
  refine sim_seg [(.aload_n 0, 0, 0, 0), (.iload_n 1, 0, 0, 0)] [] (q := 2) (L' := [some (.ref a0), some (.int b1)]) (st' := [.int b1, .ref a0]) (v1 := v) (by decide +kernel) rfl trivial ?_
  refine sim_grd fun h1 => ?_
  refine sc_ri (pc3 := 5) (cf_P (idx := 329) [.int b1] m_ab_charAtP ⟨by decide, by decide⟩ rfl (List.mem_of_getElem? (i := 1254) (by decide +kernel)) rfl (Nat.le_of_ble_eq_true rfl) h1 (by decide +kernel) (Nat.le_of_ble_eq_true rfl) rfl) (ok_ab_charAt a0 b1 S v) rfl (fun x2 => ?_)
  refine sim_grd fun h3 => ?_
  exact sim_iret (by decide +kernel) rfl h3 rfl
def B_gc_outputByte : bd := (⟨"GateCounter", "outputByte", "(I)I"⟩, prog_1_method_64_code, 2, (some .int), [], 5, 4)
theorem m_gc_outputByte : mV B_gc_outputByte 5 1 := ⟨⟨⟨by decide +kernel, Or.inl rfl⟩, rfl, (List.mem_of_getElem? (i := 1249) (by decide +kernel)), by decide +kernel, (List.mem_of_getElem? (i := 95) (by decide +kernel)), ⟨by decide, by decide⟩, by decide⟩, rfl, (by unfold nar; decide +kernel), (List.mem_of_getElem? (i := 1247) (by decide +kernel)), rfl, (List.mem_of_getElem? (i := 1248) (by decide +kernel))⟩
noncomputable def F_gc_outputByte (a0 : Nat) (b1 : Int32) (S : shp) (v : vl) : Option Int32 :=
  (if b1 < (J 0) then some ((J (-1))) else grd (kin S a0 = some (0, 5)) <| (gr S a0 1).bind fun r2 => grd (kin S r2 = some (0, 7)) <| (F_sb_length r2 S v).bind fun x5 => (if b1 < x5 then (F_sb_charAt r2 b1 S v).bind fun x6 => some (x6) else some ((J (-1)))))
theorem ok_gc_outputByte (a0 : Nat) (b1 : Int32) (S : shp) (v : vl) : SimK B_gc_outputByte 0 (entB (bN B_gc_outputByte) [.ref a0, .int b1]) [] S v (F_gc_outputByte a0 b1 S v) (ρri S v) := by
  show SimK B_gc_outputByte 0 [some (.ref a0), some (.int b1)] [] S v (F_gc_outputByte a0 b1 S v) _
  unfold F_gc_outputByte
  refine sim_seg [(.iload_n 1, 0, 0, 0)] [] (q := 1) (L' := [some (.ref a0), some (.int b1)]) (st' := [.int b1]) (v1 := v) (by decide +kernel) rfl trivial ?_
  refine sim_lt0 (o := 25) (tg := 26) (f := 4) (by decide +kernel) rfl rfl (fun _ => ?_) (fun _ => ?_)
  · refine sim_seg [(.iconst (-1), 0, 0, (-1))] [] (q := 27) (L' := [some (.ref a0), some (.int b1)]) (st' := [.int (J (-1))]) (v1 := v) (by decide +kernel) rfl trivial ?_
    exact sim_iret (by decide +kernel) rfl rfl rfl
  · refine sim_grd fun h1 => ?_
    refine sim_bind fun r2 h3 => ?_
    refine sim_seg [(.iload_n 1, 0, 0, 0), (.aload_n 0, 0, 0, 0), (.getfield 19, 5, 1, 0)] [r2] (q := 9) (L' := [some (.ref a0), some (.int b1)]) (st' := [.ref r2, .int b1]) (v1 := v) (by decide +kernel) rfl ⟨⟨h1, h3⟩, trivial⟩ ?_
    refine sim_grd fun h4 => ?_
    refine sc_ri (pc3 := 12) (cf_V (idx := 351) (ci := 7) [] m_sb_length (by decide) ⟨by decide, by decide⟩ (List.mem_of_getElem? (i := 1241) (by decide +kernel)) rfl (Nat.le_of_ble_eq_true rfl) h4 (by decide +kernel) (Nat.le_of_ble_eq_true rfl) rfl) (ok_sb_length r2 S v) rfl (fun x5 => ?_)
    refine sim_ge (o := 14) (tg := 26) (f := 15) (by decide +kernel) rfl rfl (fun _ => ?_) (fun _ => ?_)
    · refine sim_seg [(.aload_n 0, 0, 0, 0), (.getfield 19, 5, 1, 0), (.iload_n 1, 0, 0, 0)] [r2] (q := 20) (L' := [some (.ref a0), some (.int b1)]) (st' := [.int b1, .ref r2]) (v1 := v) (by decide +kernel) rfl ⟨⟨h1, h3⟩, trivial⟩ ?_
      refine sc_ri (pc3 := 23) (cf_V (idx := 360) (ci := 7) [.int b1] m_sb_charAt (by decide) ⟨by decide, by decide⟩ (List.mem_of_getElem? (i := 1250) (by decide +kernel)) rfl (Nat.le_of_ble_eq_true rfl) h4 (by decide +kernel) (Nat.le_of_ble_eq_true rfl) rfl) (ok_sb_charAt r2 b1 S v) rfl (fun x6 => ?_)
      refine sim_seg [(.goto 4, 0, 0, 0)] [] (q := 27) (L' := [some (.ref a0), some (.int b1)]) (st' := [.int x6]) (v1 := v) (by decide +kernel) rfl trivial ?_
      exact sim_iret (by decide +kernel) rfl rfl rfl
    · refine sim_seg [(.iconst (-1), 0, 0, (-1))] [] (q := 27) (L' := [some (.ref a0), some (.int b1)]) (st' := [.int (J (-1))]) (v1 := v) (by decide +kernel) rfl trivial ?_
      exact sim_iret (by decide +kernel) rfl rfl rfl
def B_gc_saveState : bd := (⟨"GateCounter", "saveState", "()I"⟩, prog_1_method_65_code, 1, (some .int), [], 5, 4)
theorem m_gc_saveState : mV B_gc_saveState 5 0 := ⟨⟨⟨by decide +kernel, Or.inl rfl⟩, rfl, (List.mem_of_getElem? (i := 1263) (by decide +kernel)), by decide +kernel, (List.mem_of_getElem? (i := 95) (by decide +kernel)), ⟨by decide, by decide⟩, by decide⟩, rfl, (by unfold nar; decide +kernel), (List.mem_of_getElem? (i := 1261) (by decide +kernel)), rfl, (List.mem_of_getElem? (i := 1262) (by decide +kernel))⟩
noncomputable def F_gc_saveState (N : Nat) (a0 : Nat) (S : shp) (v : vl) : Option (Int32 × shp × vl) :=
  grd (kin S a0 = some (0, 5)) <| (gr S a0 8).bind fun r2 => (gr S a0 5).bind fun r4 => grd (kin S r2 = some (0, 4)) <| (F_st_copyFrom N r2 r4 S v).bind fun (S7, w8) => lt (si w8 a0 9 (J 1)) fun w10 => (gr S7 a0 5).bind fun r11 => grd (kin S7 r11 = some (0, 4)) <| some (((gi w10 r11 0), S7, w10))
theorem ok_gc_saveState (N : Nat) (a0 : Nat) (S : shp) (v : vl) : SimK B_gc_saveState 0 (entB (bN B_gc_saveState) [.ref a0]) [] S v (F_gc_saveState N a0 S v) (ρgi) := by
  show SimK B_gc_saveState 0 [some (.ref a0)] [] S v (F_gc_saveState N a0 S v) _
  unfold F_gc_saveState
  refine sim_grd fun h1 => ?_
  refine sim_bind fun r2 h3 => ?_
  refine sim_bind fun r4 h5 => ?_
  refine sim_seg [(.aload_n 0, 0, 0, 0), (.getfield 36, 5, 8, 0), (.aload_n 0, 0, 0, 0), (.getfield 26, 5, 5, 0)] [r2, r4] (q := 8) (L' := [some (.ref a0)]) (st' := [.ref r4, .ref r2]) (v1 := v) (by decide +kernel) rfl ⟨⟨h1, h3⟩, ⟨h1, h5⟩, trivial⟩ ?_
  refine sim_grd fun h6 => ?_
  refine sc_gv (pc3 := 11) (cf_V (idx := 58) (ci := 4) [.ref r4] m_st_copyFrom (by decide) ⟨by decide, by decide⟩ (List.mem_of_getElem? (i := 570) (by decide +kernel)) rfl (Nat.le_of_ble_eq_true rfl) h6 (by decide +kernel) (Nat.le_of_ble_eq_true rfl) rfl) (ok_st_copyFrom N r2 r4 S v) rfl (fun S7 w8 h9 => ?_)
  refine sim_seg [(.aload_n 0, 0, 0, 0), (.iconst 1, 0, 0, 1), (.putfield 65, 5, 9, 0), (.aload_n 0, 0, 0, 0)] [] (q := 17) (L' := [some (.ref a0)]) (st' := [.ref a0]) (v1 := (si w8 a0 9 (J 1))) (by decide +kernel) rfl ⟨⟨(h9.2.2.2.2 _ _ h1), by decide⟩, trivial⟩ ?_
  refine sim_lt (x := (si w8 a0 9 (J 1))) ?_
  generalize (si w8 a0 9 (J 1)) = w10
  refine sim_bind fun r11 h12 => ?_
  refine sim_grd fun h13 => ?_
  refine sim_seg [(.getfield 26, 5, 5, 0), (.getfield 84, 4, 0, 0)] [r11] (q := 23) (L' := [some (.ref a0)]) (st' := [.int (gi w10 r11 0)]) (v1 := w10) (by decide +kernel) rfl ⟨⟨(h9.2.2.2.2 _ _ h1), h12⟩, h13, trivial⟩ ?_
  exact sim_iret (by decide +kernel) rfl rfl rfl
def B_gc_count : bd := (⟨"GateCounter", "count", "(I)I"⟩, prog_1_method_7_code, 2, (some .int), [], 5, 6)
theorem m_gc_count : mV B_gc_count 5 1 := ⟨⟨⟨by decide +kernel, Or.inl rfl⟩, rfl, (List.mem_of_getElem? (i := 1271) (by decide +kernel)), by decide +kernel, (List.mem_of_getElem? (i := 95) (by decide +kernel)), ⟨by decide, by decide⟩, by decide⟩, rfl, (by unfold nar; decide +kernel), (List.mem_of_getElem? (i := 1269) (by decide +kernel)), rfl, (List.mem_of_getElem? (i := 1270) (by decide +kernel))⟩
noncomputable def F_gc_count (a0 : Nat) (b1 : Int32) (S : shp) (v : vl) : Option (Nat ⊕ Int32) :=
  (if b1 = J 0 then grd (kin S a0 = some (0, 5)) <| (gr S a0 5).bind fun r2 => grd (kin S r2 = some (0, 4)) <| some (.inr (gi v r2 0)) else if b1 = J 1 then grd (kin S a0 = some (0, 5)) <| (gr S a0 5).bind fun r7 => grd (kin S r7 = some (0, 4)) <| (gr S r7 6).bind fun r10 => grd (kin S r10 = some (0, 0)) <| some (.inr (gi v r10 5)) else if b1 = J 2 then grd (kin S a0 = some (0, 5)) <| (gr S a0 5).bind fun r15 => grd (kin S r15 = some (0, 4)) <| (gr S r15 7).bind fun r18 => grd (kin S r18 = some (0, 3)) <| some (.inr (gi v r18 2)) else if b1 = J 3 then grd (kin S a0 = some (0, 5)) <| (gr S a0 5).bind fun r23 => grd (kin S r23 = some (0, 4)) <| (gr S r23 7).bind fun r26 => grd (kin S r26 = some (0, 3)) <| some (.inr (gi v r26 3)) else if b1 = J 4 then grd (kin S a0 = some (0, 5)) <| (gr S a0 5).bind fun r31 => grd (kin S r31 = some (0, 4)) <| (gr S r31 7).bind fun r34 => grd (kin S r34 = some (0, 3)) <| some (.inr (gi v r34 8)) else if b1 = J 5 then grd (kin S a0 = some (0, 5)) <| (gr S a0 5).bind fun r39 => grd (kin S r39 = some (0, 4)) <| (gr S r39 7).bind fun r42 => grd (kin S r42 = some (0, 3)) <| some (.inr (gi v r42 9)) else if b1 = J 6 then grd (kin S a0 = some (0, 5)) <| (gr S a0 5).bind fun r47 => grd (kin S r47 = some (0, 4)) <| some (.inr (gi v r47 4)) else if b1 = J 7 then grd (kin S a0 = some (0, 5)) <| (gr S a0 5).bind fun r52 => grd (kin S r52 = some (0, 4)) <| some (.inr (gi v r52 5)) else if b1 = J 8 then grd (kin S a0 = some (0, 5)) <| some (.inr (gi v a0 12)) else some (.inl 0))
theorem ok_gc_count (a0 : Nat) (b1 : Int32) (S : shp) (v : vl) : SimK B_gc_count 0 (entB (bN B_gc_count) [.ref a0, .int b1]) [] S v (F_gc_count a0 b1 S v) (ρxi S v) := by
  show SimK B_gc_count 0 [some (.ref a0), some (.int b1)] [] S v (F_gc_count a0 b1 S v) _
  unfold F_gc_count
  refine sim_seg [(.iload_n 1, 0, 0, 0)] [] (q := 1) (L' := [some (.ref a0), some (.int b1)]) (st' := [.int b1]) (v1 := v) (by decide +kernel) rfl trivial ?_
  refine sim_case (df := 135) (lw := 0) (hg := 8) (offs := #[51, 59, 70, 81, 92, 103, 114, 122, 130]) (len := 51) (z := 0) (o := 51) (tg := 52) (by decide +kernel) rfl rfl (by decide) (fun _ => ?_) (fun h5 => ?_)
  · refine sim_grd fun h1 => ?_
    refine sim_bind fun r2 h3 => ?_
    refine sim_grd fun h4 => ?_
    refine sim_seg [(.aload_n 0, 0, 0, 0), (.getfield 26, 5, 5, 0), (.getfield 84, 4, 0, 0)] [r2] (q := 59) (L' := [some (.ref a0), some (.int b1)]) (st' := [.int (gi v r2 0)]) (v1 := v) (by decide +kernel) rfl ⟨⟨h1, h3⟩, h4, trivial⟩ ?_
    exact sim_iret (by decide +kernel) rfl rfl rfl
  refine sim_case (df := 135) (lw := 0) (hg := 8) (offs := #[51, 59, 70, 81, 92, 103, 114, 122, 130]) (len := 51) (z := 1) (o := 59) (tg := 60) (by decide +kernel) rfl rfl (by decide) (fun _ => ?_) (fun h13 => ?_)
  · refine sim_grd fun h6 => ?_
    refine sim_bind fun r7 h8 => ?_
    refine sim_grd fun h9 => ?_
    refine sim_bind fun r10 h11 => ?_
    refine sim_grd fun h12 => ?_
    refine sim_seg [(.aload_n 0, 0, 0, 0), (.getfield 26, 5, 5, 0), (.getfield 87, 4, 6, 0), (.getfield 91, 0, 5, 0)] [r7, r10] (q := 70) (L' := [some (.ref a0), some (.int b1)]) (st' := [.int (gi v r10 5)]) (v1 := v) (by decide +kernel) rfl ⟨⟨h6, h8⟩, ⟨h9, h11⟩, h12, trivial⟩ ?_
    exact sim_iret (by decide +kernel) rfl rfl rfl
  refine sim_case (df := 135) (lw := 0) (hg := 8) (offs := #[51, 59, 70, 81, 92, 103, 114, 122, 130]) (len := 51) (z := 2) (o := 70) (tg := 71) (by decide +kernel) rfl rfl (by decide) (fun _ => ?_) (fun h21 => ?_)
  · refine sim_grd fun h14 => ?_
    refine sim_bind fun r15 h16 => ?_
    refine sim_grd fun h17 => ?_
    refine sim_bind fun r18 h19 => ?_
    refine sim_grd fun h20 => ?_
    refine sim_seg [(.aload_n 0, 0, 0, 0), (.getfield 26, 5, 5, 0), (.getfield 69, 4, 7, 0), (.getfield 96, 3, 2, 0)] [r15, r18] (q := 81) (L' := [some (.ref a0), some (.int b1)]) (st' := [.int (gi v r18 2)]) (v1 := v) (by decide +kernel) rfl ⟨⟨h14, h16⟩, ⟨h17, h19⟩, h20, trivial⟩ ?_
    exact sim_iret (by decide +kernel) rfl rfl rfl
  refine sim_case (df := 135) (lw := 0) (hg := 8) (offs := #[51, 59, 70, 81, 92, 103, 114, 122, 130]) (len := 51) (z := 3) (o := 81) (tg := 82) (by decide +kernel) rfl rfl (by decide) (fun _ => ?_) (fun h29 => ?_)
  · refine sim_grd fun h22 => ?_
    refine sim_bind fun r23 h24 => ?_
    refine sim_grd fun h25 => ?_
    refine sim_bind fun r26 h27 => ?_
    refine sim_grd fun h28 => ?_
    refine sim_seg [(.aload_n 0, 0, 0, 0), (.getfield 26, 5, 5, 0), (.getfield 69, 4, 7, 0), (.getfield 97, 3, 3, 0)] [r23, r26] (q := 92) (L' := [some (.ref a0), some (.int b1)]) (st' := [.int (gi v r26 3)]) (v1 := v) (by decide +kernel) rfl ⟨⟨h22, h24⟩, ⟨h25, h27⟩, h28, trivial⟩ ?_
    exact sim_iret (by decide +kernel) rfl rfl rfl
  refine sim_case (df := 135) (lw := 0) (hg := 8) (offs := #[51, 59, 70, 81, 92, 103, 114, 122, 130]) (len := 51) (z := 4) (o := 92) (tg := 93) (by decide +kernel) rfl rfl (by decide) (fun _ => ?_) (fun h37 => ?_)
  · refine sim_grd fun h30 => ?_
    refine sim_bind fun r31 h32 => ?_
    refine sim_grd fun h33 => ?_
    refine sim_bind fun r34 h35 => ?_
    refine sim_grd fun h36 => ?_
    refine sim_seg [(.aload_n 0, 0, 0, 0), (.getfield 26, 5, 5, 0), (.getfield 69, 4, 7, 0), (.getfield 73, 3, 8, 0)] [r31, r34] (q := 103) (L' := [some (.ref a0), some (.int b1)]) (st' := [.int (gi v r34 8)]) (v1 := v) (by decide +kernel) rfl ⟨⟨h30, h32⟩, ⟨h33, h35⟩, h36, trivial⟩ ?_
    exact sim_iret (by decide +kernel) rfl rfl rfl
  refine sim_case (df := 135) (lw := 0) (hg := 8) (offs := #[51, 59, 70, 81, 92, 103, 114, 122, 130]) (len := 51) (z := 5) (o := 103) (tg := 104) (by decide +kernel) rfl rfl (by decide) (fun _ => ?_) (fun h45 => ?_)
  · refine sim_grd fun h38 => ?_
    refine sim_bind fun r39 h40 => ?_
    refine sim_grd fun h41 => ?_
    refine sim_bind fun r42 h43 => ?_
    refine sim_grd fun h44 => ?_
    refine sim_seg [(.aload_n 0, 0, 0, 0), (.getfield 26, 5, 5, 0), (.getfield 69, 4, 7, 0), (.getfield 100, 3, 9, 0)] [r39, r42] (q := 114) (L' := [some (.ref a0), some (.int b1)]) (st' := [.int (gi v r42 9)]) (v1 := v) (by decide +kernel) rfl ⟨⟨h38, h40⟩, ⟨h41, h43⟩, h44, trivial⟩ ?_
    exact sim_iret (by decide +kernel) rfl rfl rfl
  refine sim_case (df := 135) (lw := 0) (hg := 8) (offs := #[51, 59, 70, 81, 92, 103, 114, 122, 130]) (len := 51) (z := 6) (o := 114) (tg := 115) (by decide +kernel) rfl rfl (by decide) (fun _ => ?_) (fun h50 => ?_)
  · refine sim_grd fun h46 => ?_
    refine sim_bind fun r47 h48 => ?_
    refine sim_grd fun h49 => ?_
    refine sim_seg [(.aload_n 0, 0, 0, 0), (.getfield 26, 5, 5, 0), (.getfield 103, 4, 4, 0)] [r47] (q := 122) (L' := [some (.ref a0), some (.int b1)]) (st' := [.int (gi v r47 4)]) (v1 := v) (by decide +kernel) rfl ⟨⟨h46, h48⟩, h49, trivial⟩ ?_
    exact sim_iret (by decide +kernel) rfl rfl rfl
  refine sim_case (df := 135) (lw := 0) (hg := 8) (offs := #[51, 59, 70, 81, 92, 103, 114, 122, 130]) (len := 51) (z := 7) (o := 122) (tg := 123) (by decide +kernel) rfl rfl (by decide) (fun _ => ?_) (fun h55 => ?_)
  · refine sim_grd fun h51 => ?_
    refine sim_bind fun r52 h53 => ?_
    refine sim_grd fun h54 => ?_
    refine sim_seg [(.aload_n 0, 0, 0, 0), (.getfield 26, 5, 5, 0), (.getfield 106, 4, 5, 0)] [r52] (q := 130) (L' := [some (.ref a0), some (.int b1)]) (st' := [.int (gi v r52 5)]) (v1 := v) (by decide +kernel) rfl ⟨⟨h51, h53⟩, h54, trivial⟩ ?_
    exact sim_iret (by decide +kernel) rfl rfl rfl
  refine sim_case (df := 135) (lw := 0) (hg := 8) (offs := #[51, 59, 70, 81, 92, 103, 114, 122, 130]) (len := 51) (z := 8) (o := 130) (tg := 131) (by decide +kernel) rfl rfl (by decide) (fun _ => ?_) (fun h57 => ?_)
  · refine sim_grd fun h56 => ?_
    refine sim_seg [(.aload_n 0, 0, 0, 0), (.getfield 62, 5, 12, 0)] [] (q := 135) (L' := [some (.ref a0), some (.int b1)]) (st' := [.int (gi v a0 12)]) (v1 := v) (by decide +kernel) rfl ⟨h56, trivial⟩ ?_
    exact sim_iret (by decide +kernel) rfl rfl rfl
  refine sim_tdef (df := 135) (lw := 0) (hg := 8) (offs := #[51, 59, 70, 81, 92, 103, 114, 122, 130]) (len := 51) (tg := 136) (by decide +kernel) rfl (by have eh5 := ne_J h5 (by decide) (by decide); have eh13 := ne_J h13 (by decide) (by decide); have eh21 := ne_J h21 (by decide) (by decide); have eh29 := ne_J h29 (by decide) (by decide); have eh37 := ne_J h37 (by decide) (by decide); have eh45 := ne_J h45 (by decide) (by decide); have eh50 := ne_J h50 (by decide) (by decide); have eh55 := ne_J h55 (by decide) (by decide); have eh57 := ne_J h57 (by decide) (by decide); omega) ?_
  exact sim_throw thr0 rfl rfl (by decide) (by decide +kernel) (by decide +kernel) (by decide +kernel) (by decide +kernel) (Nat.le_of_ble_eq_true rfl) rfl
def B_gc_state : bd := (⟨"GateCounter", "state", "(I)I"⟩, prog_1_method_9_code, 2, (some .int), [], 5, 6)
theorem m_gc_state : mV B_gc_state 5 1 := ⟨⟨⟨by decide +kernel, Or.inl rfl⟩, rfl, (List.mem_of_getElem? (i := 1282) (by decide +kernel)), by decide +kernel, (List.mem_of_getElem? (i := 95) (by decide +kernel)), ⟨by decide, by decide⟩, by decide⟩, rfl, (by unfold nar; decide +kernel), (List.mem_of_getElem? (i := 1280) (by decide +kernel)), rfl, (List.mem_of_getElem? (i := 1281) (by decide +kernel))⟩
noncomputable def F_gc_state (a0 : Nat) (b1 : Int32) (S : shp) (v : vl) : Option (Nat ⊕ Int32) :=
  (if b1 = J 0 then grd (kin S a0 = some (0, 5)) <| (gr S a0 5).bind fun r2 => grd (kin S r2 = some (0, 4)) <| (gr S r2 6).bind fun r5 => grd (kin S r5 = some (0, 0)) <| some (.inr (gi v r5 4)) else if b1 = J 1 then grd (kin S a0 = some (0, 5)) <| (gr S a0 5).bind fun r10 => grd (kin S r10 = some (0, 4)) <| (gr S r10 6).bind fun r13 => grd (kin S r13 = some (0, 0)) <| some (.inr (gi v r13 3)) else if b1 = J 2 then grd (kin S a0 = some (0, 5)) <| (gr S a0 5).bind fun r18 => grd (kin S r18 = some (0, 4)) <| (gr S r18 7).bind fun r21 => grd (kin S r21 = some (0, 3)) <| some (.inr (gi v r21 0)) else if b1 = J 3 then grd (kin S a0 = some (0, 5)) <| (gr S a0 5).bind fun r26 => grd (kin S r26 = some (0, 4)) <| (gr S r26 7).bind fun r29 => grd (kin S r29 = some (0, 3)) <| some (.inr (gi v r29 1)) else if b1 = J 4 then grd (kin S a0 = some (0, 5)) <| (gr S a0 5).bind fun r34 => grd (kin S r34 = some (0, 4)) <| (gr S r34 7).bind fun r37 => grd (kin S r37 = some (0, 3)) <| some (.inr (gi v r37 5)) else if b1 = J 5 then grd (kin S a0 = some (0, 5)) <| (gr S a0 5).bind fun r42 => grd (kin S r42 = some (0, 4)) <| (gr S r42 7).bind fun r45 => grd (kin S r45 = some (0, 3)) <| (F_sg_nextSegment r45 S v).bind fun x48 => some (.inr x48) else some (.inl 0))
theorem ok_gc_state (a0 : Nat) (b1 : Int32) (S : shp) (v : vl) : SimK B_gc_state 0 (entB (bN B_gc_state) [.ref a0, .int b1]) [] S v (F_gc_state a0 b1 S v) (ρxi S v) := by
  show SimK B_gc_state 0 [some (.ref a0), some (.int b1)] [] S v (F_gc_state a0 b1 S v) _
  unfold F_gc_state
  refine sim_seg [(.iload_n 1, 0, 0, 0)] [] (q := 1) (L' := [some (.ref a0), some (.int b1)]) (st' := [.int b1]) (v1 := v) (by decide +kernel) rfl trivial ?_
  refine sim_case (df := 105) (lw := 0) (hg := 5) (offs := #[39, 50, 61, 72, 83, 94]) (len := 39) (z := 0) (o := 39) (tg := 40) (by decide +kernel) rfl rfl (by decide) (fun _ => ?_) (fun h8 => ?_)
  · refine sim_grd fun h1 => ?_
    refine sim_bind fun r2 h3 => ?_
    refine sim_grd fun h4 => ?_
    refine sim_bind fun r5 h6 => ?_
    refine sim_grd fun h7 => ?_
    refine sim_seg [(.aload_n 0, 0, 0, 0), (.getfield 26, 5, 5, 0), (.getfield 87, 4, 6, 0), (.getfield 133, 0, 4, 0)] [r2, r5] (q := 50) (L' := [some (.ref a0), some (.int b1)]) (st' := [.int (gi v r5 4)]) (v1 := v) (by decide +kernel) rfl ⟨⟨h1, h3⟩, ⟨h4, h6⟩, h7, trivial⟩ ?_
    exact sim_iret (by decide +kernel) rfl rfl rfl
  refine sim_case (df := 105) (lw := 0) (hg := 5) (offs := #[39, 50, 61, 72, 83, 94]) (len := 39) (z := 1) (o := 50) (tg := 51) (by decide +kernel) rfl rfl (by decide) (fun _ => ?_) (fun h16 => ?_)
  · refine sim_grd fun h9 => ?_
    refine sim_bind fun r10 h11 => ?_
    refine sim_grd fun h12 => ?_
    refine sim_bind fun r13 h14 => ?_
    refine sim_grd fun h15 => ?_
    refine sim_seg [(.aload_n 0, 0, 0, 0), (.getfield 26, 5, 5, 0), (.getfield 87, 4, 6, 0), (.getfield 136, 0, 3, 0)] [r10, r13] (q := 61) (L' := [some (.ref a0), some (.int b1)]) (st' := [.int (gi v r13 3)]) (v1 := v) (by decide +kernel) rfl ⟨⟨h9, h11⟩, ⟨h12, h14⟩, h15, trivial⟩ ?_
    exact sim_iret (by decide +kernel) rfl rfl rfl
  refine sim_case (df := 105) (lw := 0) (hg := 5) (offs := #[39, 50, 61, 72, 83, 94]) (len := 39) (z := 2) (o := 61) (tg := 62) (by decide +kernel) rfl rfl (by decide) (fun _ => ?_) (fun h24 => ?_)
  · refine sim_grd fun h17 => ?_
    refine sim_bind fun r18 h19 => ?_
    refine sim_grd fun h20 => ?_
    refine sim_bind fun r21 h22 => ?_
    refine sim_grd fun h23 => ?_
    refine sim_seg [(.aload_n 0, 0, 0, 0), (.getfield 26, 5, 5, 0), (.getfield 69, 4, 7, 0), (.getfield 139, 3, 0, 0)] [r18, r21] (q := 72) (L' := [some (.ref a0), some (.int b1)]) (st' := [.int (gi v r21 0)]) (v1 := v) (by decide +kernel) rfl ⟨⟨h17, h19⟩, ⟨h20, h22⟩, h23, trivial⟩ ?_
    exact sim_iret (by decide +kernel) rfl rfl rfl
  refine sim_case (df := 105) (lw := 0) (hg := 5) (offs := #[39, 50, 61, 72, 83, 94]) (len := 39) (z := 3) (o := 72) (tg := 73) (by decide +kernel) rfl rfl (by decide) (fun _ => ?_) (fun h32 => ?_)
  · refine sim_grd fun h25 => ?_
    refine sim_bind fun r26 h27 => ?_
    refine sim_grd fun h28 => ?_
    refine sim_bind fun r29 h30 => ?_
    refine sim_grd fun h31 => ?_
    refine sim_seg [(.aload_n 0, 0, 0, 0), (.getfield 26, 5, 5, 0), (.getfield 69, 4, 7, 0), (.getfield 142, 3, 1, 0)] [r26, r29] (q := 83) (L' := [some (.ref a0), some (.int b1)]) (st' := [.int (gi v r29 1)]) (v1 := v) (by decide +kernel) rfl ⟨⟨h25, h27⟩, ⟨h28, h30⟩, h31, trivial⟩ ?_
    exact sim_iret (by decide +kernel) rfl rfl rfl
  refine sim_case (df := 105) (lw := 0) (hg := 5) (offs := #[39, 50, 61, 72, 83, 94]) (len := 39) (z := 4) (o := 83) (tg := 84) (by decide +kernel) rfl rfl (by decide) (fun _ => ?_) (fun h40 => ?_)
  · refine sim_grd fun h33 => ?_
    refine sim_bind fun r34 h35 => ?_
    refine sim_grd fun h36 => ?_
    refine sim_bind fun r37 h38 => ?_
    refine sim_grd fun h39 => ?_
    refine sim_seg [(.aload_n 0, 0, 0, 0), (.getfield 26, 5, 5, 0), (.getfield 69, 4, 7, 0), (.getfield 145, 3, 5, 0)] [r34, r37] (q := 94) (L' := [some (.ref a0), some (.int b1)]) (st' := [.int (gi v r37 5)]) (v1 := v) (by decide +kernel) rfl ⟨⟨h33, h35⟩, ⟨h36, h38⟩, h39, trivial⟩ ?_
    exact sim_iret (by decide +kernel) rfl rfl rfl
  refine sim_case (df := 105) (lw := 0) (hg := 5) (offs := #[39, 50, 61, 72, 83, 94]) (len := 39) (z := 5) (o := 94) (tg := 95) (by decide +kernel) rfl rfl (by decide) (fun _ => ?_) (fun h49 => ?_)
  · refine sim_grd fun h41 => ?_
    refine sim_bind fun r42 h43 => ?_
    refine sim_grd fun h44 => ?_
    refine sim_bind fun r45 h46 => ?_
    refine sim_seg [(.aload_n 0, 0, 0, 0), (.getfield 26, 5, 5, 0), (.getfield 69, 4, 7, 0)] [r42, r45] (q := 102) (L' := [some (.ref a0), some (.int b1)]) (st' := [.ref r45]) (v1 := v) (by decide +kernel) rfl ⟨⟨h41, h43⟩, ⟨h44, h46⟩, trivial⟩ ?_
    refine sim_grd fun h47 => ?_
    refine sc_ri (pc3 := 105) (cf_V (idx := 148) (ci := 3) [] m_sg_nextSegment (by decide) ⟨by decide, by decide⟩ (List.mem_of_getElem? (i := 637) (by decide +kernel)) rfl (Nat.le_of_ble_eq_true rfl) h47 (by decide +kernel) (Nat.le_of_ble_eq_true rfl) rfl) (ok_sg_nextSegment r45 S v) rfl (fun x48 => ?_)
    exact sim_iret (by decide +kernel) rfl rfl rfl
  refine sim_tdef (df := 105) (lw := 0) (hg := 5) (offs := #[39, 50, 61, 72, 83, 94]) (len := 39) (tg := 106) (by decide +kernel) rfl (by have eh8 := ne_J h8 (by decide) (by decide); have eh16 := ne_J h16 (by decide) (by decide); have eh24 := ne_J h24 (by decide) (by decide); have eh32 := ne_J h32 (by decide) (by decide); have eh40 := ne_J h40 (by decide) (by decide); have eh49 := ne_J h49 (by decide) (by decide); omega) ?_
  exact sim_throw thr0 rfl rfl (by decide) (by decide +kernel) (by decide +kernel) (by decide +kernel) (by decide +kernel) (Nat.le_of_ble_eq_true rfl) rfl
def B_gc_require : bd := (⟨"GateCounter", "require", "(Z)V"⟩, prog_1_method_67_code, 1, none, [], 5, 6)
theorem m_gc_require : mS B_gc_require 1 := ⟨⟨⟨by decide +kernel, Or.inl rfl⟩, rfl, (List.mem_of_getElem? (i := 1308) (by decide +kernel)), by decide +kernel, (List.mem_of_getElem? (i := 95) (by decide +kernel)), ⟨by decide, by decide⟩, by decide⟩, rfl, (by unfold nar; decide +kernel), (List.mem_of_getElem? (i := 1307) (by decide +kernel))⟩
noncomputable def F_gc_require (b0 : Int32) (S : shp) (v : vl) : Option (Nat ⊕ Unit) :=
  (if b0 = (J 0) then some (.inl 0) else some (.inr ()))
theorem ok_gc_require (b0 : Int32) (S : shp) (v : vl) : SimK B_gc_require 0 (entB (bN B_gc_require) [.int b0]) [] S v (F_gc_require b0 S v) (ρxv S v) := by
  show SimK B_gc_require 0 [some (.int b0)] [] S v (F_gc_require b0 S v) _
  unfold F_gc_require
  refine sim_seg [(.iload_n 0, 0, 0, 0)] [] (q := 1) (L' := [some (.int b0)]) (st' := [.int b0]) (v1 := v) (by decide +kernel) rfl trivial ?_
  refine sim_ne0 (o := 11) (tg := 12) (f := 4) (by decide +kernel) rfl rfl (fun _ => ?_) (fun _ => ?_)
  · exact sim_throw thr0 rfl rfl (by decide) (by decide +kernel) (by decide +kernel) (by decide +kernel) (by decide +kernel) (Nat.le_of_ble_eq_true rfl) rfl
  · exact sim_vret (by decide +kernel) rfl rfl
def B_gc_segment : bd := (⟨"GateCounter", "segment", "(II)I"⟩, prog_1_method_10_code, 3, (some .int), [], 5, 7)
theorem m_gc_segment : mV B_gc_segment 5 2 := ⟨⟨⟨by decide +kernel, Or.inl rfl⟩, rfl, (List.mem_of_getElem? (i := 1290) (by decide +kernel)), by decide +kernel, (List.mem_of_getElem? (i := 95) (by decide +kernel)), ⟨by decide, by decide⟩, by decide⟩, rfl, (by unfold nar; decide +kernel), (List.mem_of_getElem? (i := 1288) (by decide +kernel)), rfl, (List.mem_of_getElem? (i := 1289) (by decide +kernel))⟩
noncomputable def K_gc_segment_40  (S : shp) (v : vl) (p0 : Nat) (p1 : Int32) (p2 : Int32) (s0 : Int32) : Option (Nat ⊕ Int32) :=
  bx (F_gc_require s0 S v) (fun k0 => some (.inl k0)) fun _ => (if p2 = (J 0) then grd (kin S p0 = some (0, 5)) <| (gr S p0 5).bind fun r9 => grd (kin S r9 = some (0, 4)) <| (gr S r9 7).bind fun r12 => grd (kin S r12 = some (0, 3)) <| (gr S r12 10).bind fun r15 => grd (kin S r15 = some (1, 8)) <| grd (vp_in p1 (alen S r15)) <| some (.inr (gi v r15 (Int32.toNatClampNeg p1))) else grd (kin S p0 = some (0, 5)) <| (gr S p0 5).bind fun r20 => grd (kin S r20 = some (0, 4)) <| (gr S r20 7).bind fun r23 => grd (kin S r23 = some (0, 3)) <| (gr S r23 11).bind fun r26 => grd (kin S r26 = some (1, 8)) <| grd (vp_in p1 (alen S r26)) <| some (.inr (gi v r26 (Int32.toNatClampNeg p1))))
theorem sK_gc_segment_40   (S : shp) (v : vl) (p0 : Nat) (p1 : Int32) (p2 : Int32) (s0 : Int32) : SimK B_gc_segment 40 [some (.ref p0), some (.int p1), some (.int p2)] [.int s0] S v (K_gc_segment_40   S v p0 p1 p2 s0) (ρxi S v) := by
  unfold K_gc_segment_40
  refine sc_xv (pc3 := 43) (cf_S (idx := 155) [.int s0] m_gc_require ⟨by decide, by decide⟩ (List.mem_of_getElem? (i := 1306) (by decide +kernel)) rfl (Nat.le_of_ble_eq_true rfl) (by decide +kernel) (Nat.le_of_ble_eq_true rfl) rfl) (ok_gc_require s0 S v) rfl rfl (fun k0 b hb => by cases hb; rfl) (fun _ => ?_)
  refine sim_seg [(.iload_n 2, 0, 0, 0)] [] (q := 44) (L' := [some (.ref p0), some (.int p1), some (.int p2)]) (st' := [.int p2]) (v1 := v) (by decide +kernel) rfl trivial ?_
  refine sim_ne0 (o := 18) (tg := 62) (f := 47) (by decide +kernel) rfl rfl (fun _ => ?_) (fun _ => ?_)
  · refine sim_grd fun h8 => ?_
    refine sim_bind fun r9 h10 => ?_
    refine sim_grd fun h11 => ?_
    refine sim_bind fun r12 h13 => ?_
    refine sim_grd fun h14 => ?_
    refine sim_bind fun r15 h16 => ?_
    refine sim_grd fun h17 => ?_
    refine sim_grd fun h18 => ?_
    refine sim_seg [(.aload_n 0, 0, 0, 0), (.getfield 26, 5, 5, 0), (.getfield 69, 4, 7, 0), (.getfield 159, 3, 10, 0), (.iload_n 1, 0, 0, 0), (.iaload, 0, 0, 0), (.goto 15, 0, 0, 0)] [r9, r12, r15] (q := 74) (L' := [some (.ref p0), some (.int p1), some (.int p2)]) (st' := [.int (gi v r15 (Int32.toNatClampNeg p1))]) (v1 := v) (by decide +kernel) rfl ⟨⟨h8, h10⟩, ⟨h11, h13⟩, ⟨h14, h16⟩, ⟨(Or.inl (kin_alen h17)), h18⟩, trivial⟩ ?_
    exact sim_iret (by decide +kernel) rfl rfl rfl
  · refine sim_grd fun h19 => ?_
    refine sim_bind fun r20 h21 => ?_
    refine sim_grd fun h22 => ?_
    refine sim_bind fun r23 h24 => ?_
    refine sim_grd fun h25 => ?_
    refine sim_bind fun r26 h27 => ?_
    refine sim_grd fun h28 => ?_
    refine sim_grd fun h29 => ?_
    refine sim_seg [(.aload_n 0, 0, 0, 0), (.getfield 26, 5, 5, 0), (.getfield 69, 4, 7, 0), (.getfield 163, 3, 11, 0), (.iload_n 1, 0, 0, 0), (.iaload, 0, 0, 0)] [r20, r23, r26] (q := 74) (L' := [some (.ref p0), some (.int p1), some (.int p2)]) (st' := [.int (gi v r26 (Int32.toNatClampNeg p1))]) (v1 := v) (by decide +kernel) rfl ⟨⟨h19, h21⟩, ⟨h22, h24⟩, ⟨h25, h27⟩, ⟨(Or.inl (kin_alen h28)), h29⟩, trivial⟩ ?_
    exact sim_iret (by decide +kernel) rfl rfl rfl
noncomputable def F_gc_segment (a0 : Nat) (b1 : Int32) (b2 : Int32) (S : shp) (v : vl) : Option (Nat ⊕ Int32) :=
  (if b1 < (J 0) then some (.inl 1) else grd (kin S a0 = some (0, 5)) <| (gr S a0 5).bind fun r2 => grd (kin S r2 = some (0, 4)) <| (gr S r2 7).bind fun r5 => grd (kin S r5 = some (0, 3)) <| (if b1 < (gi v r5 8) then (if b2 = (J 0) then K_gc_segment_40  S v a0 b1 b2 (J 1) else (if b2 = (J 1) then K_gc_segment_40  S v a0 b1 b2 (J 1) else K_gc_segment_40  S v a0 b1 b2 (J 0))) else some (.inl 1)))
theorem ok_gc_segment (a0 : Nat) (b1 : Int32) (b2 : Int32) (S : shp) (v : vl) : SimK B_gc_segment 0 (entB (bN B_gc_segment) [.ref a0, .int b1, .int b2]) [] S v (F_gc_segment a0 b1 b2 S v) (ρxi S v) := by
  show SimK B_gc_segment 0 [some (.ref a0), some (.int b1), some (.int b2)] [] S v (F_gc_segment a0 b1 b2 S v) _
  unfold F_gc_segment
  refine sim_seg [(.iload_n 1, 0, 0, 0)] [] (q := 1) (L' := [some (.ref a0), some (.int b1), some (.int b2)]) (st' := [.int b1]) (v1 := v) (by decide +kernel) rfl trivial ?_
  refine sim_lt0 (o := 17) (tg := 18) (f := 4) (by decide +kernel) rfl rfl (fun _ => ?_) (fun _ => ?_)
  · exact sim_throw thr1 rfl rfl (by decide) (by decide +kernel) (by decide +kernel) (by decide +kernel) (by decide +kernel) (Nat.le_of_ble_eq_true rfl) rfl
  · refine sim_grd fun h1 => ?_
    refine sim_bind fun r2 h3 => ?_
    refine sim_grd fun h4 => ?_
    refine sim_bind fun r5 h6 => ?_
    refine sim_grd fun h7 => ?_
    refine sim_seg [(.iload_n 1, 0, 0, 0), (.aload_n 0, 0, 0, 0), (.getfield 26, 5, 5, 0), (.getfield 69, 4, 7, 0), (.getfield 73, 3, 8, 0)] [r2, r5] (q := 15) (L' := [some (.ref a0), some (.int b1), some (.int b2)]) (st' := [.int (gi v r5 8), .int b1]) (v1 := v) (by decide +kernel) rfl ⟨⟨h1, h3⟩, ⟨h4, h6⟩, h7, trivial⟩ ?_
    refine sim_lt' (o := 11) (tg := 26) (f := 18) (by decide +kernel) rfl rfl (fun _ => ?_) (fun _ => ?_)
    · refine sim_seg [(.iload_n 2, 0, 0, 0)] [] (q := 27) (L' := [some (.ref a0), some (.int b1), some (.int b2)]) (st' := [.int b2]) (v1 := v) (by decide +kernel) rfl trivial ?_
      refine sim_eq0 (o := 8) (tg := 35) (f := 30) (by decide +kernel) rfl rfl (fun _ => ?_) (fun _ => ?_)
      · refine sim_seg [(.iconst 1, 0, 0, 1), (.goto 4, 0, 0, 0)] [] (q := 40) (L' := [some (.ref a0), some (.int b1), some (.int b2)]) (st' := [.int (J 1)]) (v1 := v) (by decide +kernel) rfl trivial ?_
        exact sK_gc_segment_40 S v a0 b1 b2 (J 1)
      · refine sim_seg [(.iload_n 2, 0, 0, 0), (.iconst 1, 0, 0, 1)] [] (q := 32) (L' := [some (.ref a0), some (.int b1), some (.int b2)]) (st' := [.int (J 1), .int b2]) (v1 := v) (by decide +kernel) rfl trivial ?_
        refine sim_ne (o := 7) (tg := 39) (f := 35) (by decide +kernel) rfl rfl (fun _ => ?_) (fun _ => ?_)
        · refine sim_seg [(.iconst 1, 0, 0, 1), (.goto 4, 0, 0, 0)] [] (q := 40) (L' := [some (.ref a0), some (.int b1), some (.int b2)]) (st' := [.int (J 1)]) (v1 := v) (by decide +kernel) rfl trivial ?_
          exact sK_gc_segment_40 S v a0 b1 b2 (J 1)
        · refine sim_seg [(.iconst 0, 0, 0, 0)] [] (q := 40) (L' := [some (.ref a0), some (.int b1), some (.int b2)]) (st' := [.int (J 0)]) (v1 := v) (by decide +kernel) rfl trivial ?_
          exact sK_gc_segment_40 S v a0 b1 b2 (J 0)
    · exact sim_throw thr1 rfl rfl (by decide) (by decide +kernel) (by decide +kernel) (by decide +kernel) (by decide +kernel) (Nat.le_of_ble_eq_true rfl) rfl
def B_gc_found : bd := (⟨"GateCounter", "found", "(I)LGateCounter$Measurement;"⟩, prog_1_method_69_code, 3, (some (.object "GateCounter$Measurement")), [], 5, 6)
theorem m_gc_found : mV B_gc_found 5 1 := ⟨⟨⟨by decide +kernel, Or.inl rfl⟩, rfl, (List.mem_of_getElem? (i := 1319) (by decide +kernel)), by decide +kernel, (List.mem_of_getElem? (i := 95) (by decide +kernel)), ⟨by decide, by decide⟩, by decide⟩, rfl, (by unfold nar; decide +kernel), (List.mem_of_getElem? (i := 1318) (by decide +kernel)), rfl, (List.mem_of_getElem? (i := 30) (by decide +kernel))⟩
noncomputable def F_gc_found (a0 : Nat) (b1 : Int32) (S : shp) (v : vl) : Option (Nat ⊕ (Option Nat)) :=
  grd (kin S a0 = some (0, 5)) <| (gr S a0 5).bind fun r2 => grd (kin S r2 = some (0, 4)) <| (F_st_at r2 b1 S v).bind fun q5 => oc2 q5 (some (.inl 1)) fun r6 => some (.inr (some r6))
theorem ok_gc_found (a0 : Nat) (b1 : Int32) (S : shp) (v : vl) : SimK B_gc_found 0 (entB (bN B_gc_found) [.ref a0, .int b1]) [] S v (F_gc_found a0 b1 S v) (ρxq S v) := by
  show SimK B_gc_found 0 [some (.ref a0), some (.int b1), none] [] S v (F_gc_found a0 b1 S v) _
  unfold F_gc_found
  refine sim_grd fun h1 => ?_
  refine sim_bind fun r2 h3 => ?_
  refine sim_seg [(.aload_n 0, 0, 0, 0), (.getfield 26, 5, 5, 0), (.iload_n 1, 0, 0, 0)] [r2] (q := 5) (L' := [some (.ref a0), some (.int b1), none]) (st' := [.int b1, .ref r2]) (v1 := v) (by decide +kernel) rfl ⟨⟨h1, h3⟩, trivial⟩ ?_
  refine sim_grd fun h4 => ?_
  refine sc_rq (pc3 := 8) (cf_V (idx := 364) (ci := 4) [.int b1] m_st_at (by decide) ⟨by decide, by decide⟩ (List.mem_of_getElem? (i := 1320) (by decide +kernel)) rfl (Nat.le_of_ble_eq_true rfl) h4 (by decide +kernel) (Nat.le_of_ble_eq_true rfl) rfl) (ok_st_at r2 b1 S v) rfl (fun q5 => ?_)
  refine sim_oc2 (fun _ => ?_) (fun r6 _ => ?_)
  · refine sim_seg [(.astore_n 2, 0, 0, 0)] [] (q := 9) (L' := [some (.ref a0), some (.int b1), some (.null)]) (st' := []) (v1 := v) (by decide +kernel) rfl trivial ?_
    refine sim_seg [(.aload_n 2, 0, 0, 0)] [] (q := 10) (L' := [some (.ref a0), some (.int b1), some (.null)]) (st' := [.null]) (v1 := v) (by decide +kernel) rfl trivial ?_
    refine sim_ifnonnullN (o := 11) (f := 13) (by decide +kernel) rfl ?_
    exact sim_throw thr1 rfl rfl (by decide) (by decide +kernel) (by decide +kernel) (by decide +kernel) (by decide +kernel) (Nat.le_of_ble_eq_true rfl) rfl
  · refine sim_seg [(.astore_n 2, 0, 0, 0)] [] (q := 9) (L' := [some (.ref a0), some (.int b1), some (.ref r6)]) (st' := []) (v1 := v) (by decide +kernel) rfl trivial ?_
    refine sim_seg [(.aload_n 2, 0, 0, 0)] [] (q := 10) (L' := [some (.ref a0), some (.int b1), some (.ref r6)]) (st' := [.ref r6]) (v1 := v) (by decide +kernel) rfl trivial ?_
    refine sim_ifnonnullS (o := 11) (tg := 21) (by decide +kernel) rfl ?_
    refine sim_seg [(.aload_n 2, 0, 0, 0)] [] (q := 22) (L' := [some (.ref a0), some (.int b1), some (.ref r6)]) (st' := [.ref r6]) (v1 := v) (by decide +kernel) rfl trivial ?_
    exact sim_aretS (by decide +kernel) rfl (Or.inl ⟨_, rfl⟩) rfl
def B_gc_requireWithin : bd := (⟨"GateCounter", "requireWithin", "(III)V"⟩, prog_1_method_68_code, 3, none, [], 5, 7)
theorem m_gc_requireWithin : mS B_gc_requireWithin 3 := ⟨⟨⟨by decide +kernel, Or.inl rfl⟩, rfl, (List.mem_of_getElem? (i := 1323) (by decide +kernel)), by decide +kernel, (List.mem_of_getElem? (i := 95) (by decide +kernel)), ⟨by decide, by decide⟩, by decide⟩, rfl, (by unfold nar; decide +kernel), (List.mem_of_getElem? (i := 1322) (by decide +kernel))⟩
noncomputable def F_gc_requireWithin (b0 : Int32) (b1 : Int32) (b2 : Int32) (S : shp) (v : vl) : Option (Nat ⊕ Unit) :=
  (if b0 < b1 then bx (F_gc_require (J 0) S v) (fun k0 => some (.inl k0)) fun _ => some (.inr ()) else (if b2 < b0 then bx (F_gc_require (J 0) S v) (fun k0 => some (.inl k0)) fun _ => some (.inr ()) else bx (F_gc_require (J 1) S v) (fun k0 => some (.inl k0)) fun _ => some (.inr ())))
theorem ok_gc_requireWithin (b0 : Int32) (b1 : Int32) (b2 : Int32) (S : shp) (v : vl) : SimK B_gc_requireWithin 0 (entB (bN B_gc_requireWithin) [.int b0, .int b1, .int b2]) [] S v (F_gc_requireWithin b0 b1 b2 S v) (ρxv S v) := by
  show SimK B_gc_requireWithin 0 [some (.int b0), some (.int b1), some (.int b2)] [] S v (F_gc_requireWithin b0 b1 b2 S v) _
  unfold F_gc_requireWithin
  refine sim_seg [(.iload_n 0, 0, 0, 0), (.iload_n 1, 0, 0, 0)] [] (q := 2) (L' := [some (.int b0), some (.int b1), some (.int b2)]) (st' := [.int b1, .int b0]) (v1 := v) (by decide +kernel) rfl trivial ?_
  refine sim_lt' (o := 12) (tg := 14) (f := 5) (by decide +kernel) rfl rfl (fun _ => ?_) (fun _ => ?_)
  · refine sim_seg [(.iconst 0, 0, 0, 0)] [] (q := 15) (L' := [some (.int b0), some (.int b1), some (.int b2)]) (st' := [.int (J 0)]) (v1 := v) (by decide +kernel) rfl trivial ?_
    refine sc_xv (pc3 := 18) (cf_S (idx := 155) [.int (J 0)] m_gc_require ⟨by decide, by decide⟩ (List.mem_of_getElem? (i := 1306) (by decide +kernel)) rfl (Nat.le_of_ble_eq_true rfl) (by decide +kernel) (Nat.le_of_ble_eq_true rfl) rfl) (ok_gc_require (J 0) S v) rfl rfl (fun k0 b hb => by cases hb; rfl) (fun _ => ?_)
    exact sim_vret (by decide +kernel) rfl rfl
  · refine sim_seg [(.iload_n 0, 0, 0, 0), (.iload_n 2, 0, 0, 0)] [] (q := 7) (L' := [some (.int b0), some (.int b1), some (.int b2)]) (st' := [.int b2, .int b0]) (v1 := v) (by decide +kernel) rfl trivial ?_
    refine sim_gt (o := 7) (tg := 14) (f := 10) (by decide +kernel) rfl rfl (fun _ => ?_) (fun _ => ?_)
    · refine sim_seg [(.iconst 0, 0, 0, 0)] [] (q := 15) (L' := [some (.int b0), some (.int b1), some (.int b2)]) (st' := [.int (J 0)]) (v1 := v) (by decide +kernel) rfl trivial ?_
      refine sc_xv (pc3 := 18) (cf_S (idx := 155) [.int (J 0)] m_gc_require ⟨by decide, by decide⟩ (List.mem_of_getElem? (i := 1306) (by decide +kernel)) rfl (Nat.le_of_ble_eq_true rfl) (by decide +kernel) (Nat.le_of_ble_eq_true rfl) rfl) (ok_gc_require (J 0) S v) rfl rfl (fun k0 b hb => by cases hb; rfl) (fun _ => ?_)
      exact sim_vret (by decide +kernel) rfl rfl
    · refine sim_seg [(.iconst 1, 0, 0, 1), (.goto 4, 0, 0, 0)] [] (q := 15) (L' := [some (.int b0), some (.int b1), some (.int b2)]) (st' := [.int (J 1)]) (v1 := v) (by decide +kernel) rfl trivial ?_
      refine sc_xv (pc3 := 18) (cf_S (idx := 155) [.int (J 1)] m_gc_require ⟨by decide, by decide⟩ (List.mem_of_getElem? (i := 1306) (by decide +kernel)) rfl (Nat.le_of_ble_eq_true rfl) (by decide +kernel) (Nat.le_of_ble_eq_true rfl) rfl) (ok_gc_require (J 1) S v) rfl rfl (fun k0 b hb => by cases hb; rfl) (fun _ => ?_)
      exact sim_vret (by decide +kernel) rfl rfl
def B_gc_measurement : bd := (⟨"GateCounter", "measurement", "(II)I"⟩, prog_1_method_11_code, 4, (some .int), [], 5, 8)
theorem m_gc_measurement : mV B_gc_measurement 5 2 := ⟨⟨⟨by decide +kernel, Or.inl rfl⟩, rfl, (List.mem_of_getElem? (i := 1315) (by decide +kernel)), by decide +kernel, (List.mem_of_getElem? (i := 95) (by decide +kernel)), ⟨by decide, by decide⟩, by decide⟩, rfl, (by unfold nar; decide +kernel), (List.mem_of_getElem? (i := 1313) (by decide +kernel)), rfl, (List.mem_of_getElem? (i := 1314) (by decide +kernel))⟩
noncomputable def F_gc_measurement (N : Nat) (a0 : Nat) (b1 : Int32) (b2 : Int32) (S : shp) (v : vl) : Option (Nat ⊕ Int32) :=
  grd (kin S a0 = some (0, 5)) <| bx (F_gc_found a0 b1 S v) (fun k0 => some (.inl k0)) fun q2 => oc2 q2 none fun r3 => bx (F_gc_requireWithin b2 (J 0) (J 7) S v) (fun k0 => some (.inl k0)) fun _ => grd (kin S r3 = some (0, 1)) <| (F_ms_number N r3 b2 S v).bind fun x5 => some (.inr x5)
theorem ok_gc_measurement (N : Nat) (a0 : Nat) (b1 : Int32) (b2 : Int32) (S : shp) (v : vl) : SimK B_gc_measurement 0 (entB (bN B_gc_measurement) [.ref a0, .int b1, .int b2]) [] S v (F_gc_measurement N a0 b1 b2 S v) (ρxi S v) := by
  show SimK B_gc_measurement 0 [some (.ref a0), some (.int b1), some (.int b2), none] [] S v (F_gc_measurement N a0 b1 b2 S v) _
  unfold F_gc_measurement
  refine sim_seg [(.aload_n 0, 0, 0, 0), (.iload_n 1, 0, 0, 0)] [] (q := 2) (L' := [some (.ref a0), some (.int b1), some (.int b2), none]) (st' := [.int b1, .ref a0]) (v1 := v) (by decide +kernel) rfl trivial ?_
  refine sim_grd fun h1 => ?_
  refine sc_xq (pc3 := 5) (cf_V (idx := 166) (ci := 5) [.int b1] m_gc_found (by decide) ⟨by decide, by decide⟩ (List.mem_of_getElem? (i := 1316) (by decide +kernel)) rfl (Nat.le_of_ble_eq_true rfl) h1 (by decide +kernel) (Nat.le_of_ble_eq_true rfl) rfl) (ok_gc_found a0 b1 S v) rfl rfl (fun k0 b hb => by cases hb; rfl) (fun q2 => ?_)
  refine sim_oc2 (fun _ => sim_none) (fun r3 _ => ?_)
  refine sim_seg [(.astore_n 3, 0, 0, 0)] [] (q := 6) (L' := [some (.ref a0), some (.int b1), some (.int b2), some (.ref r3)]) (st' := []) (v1 := v) (by decide +kernel) rfl trivial ?_
  refine sim_seg [(.iload_n 2, 0, 0, 0), (.iconst 0, 0, 0, 0), (.bipush 7, 0, 0, 7)] [] (q := 10) (L' := [some (.ref a0), some (.int b1), some (.int b2), some (.ref r3)]) (st' := [.int (J 7), .int (J 0), .int b2]) (v1 := v) (by decide +kernel) rfl trivial ?_
  refine sc_xv (pc3 := 13) (cf_S (idx := 170) [.int b2, .int (J 0), .int (J 7)] m_gc_requireWithin ⟨by decide, by decide⟩ (List.mem_of_getElem? (i := 1321) (by decide +kernel)) rfl (Nat.le_of_ble_eq_true rfl) (by decide +kernel) (Nat.le_of_ble_eq_true rfl) rfl) (ok_gc_requireWithin b2 (J 0) (J 7) S v) rfl rfl (fun k0 b hb => by cases hb; rfl) (fun _ => ?_)
  refine sim_seg [(.aload_n 3, 0, 0, 0), (.iload_n 2, 0, 0, 0)] [] (q := 15) (L' := [some (.ref a0), some (.int b1), some (.int b2), some (.ref r3)]) (st' := [.int b2, .ref r3]) (v1 := v) (by decide +kernel) rfl trivial ?_
  refine sim_grd fun h4 => ?_
  refine sc_ri (pc3 := 18) (cf_V (idx := 174) (ci := 1) [.int b2] m_ms_number (by decide) ⟨by decide, by decide⟩ (List.mem_of_getElem? (i := 1324) (by decide +kernel)) rfl (Nat.le_of_ble_eq_true rfl) h4 (by decide +kernel) (Nat.le_of_ble_eq_true rfl) rfl) (ok_ms_number N r3 b2 S v) rfl (fun x5 => ?_)
  exact sim_iret (by decide +kernel) rfl rfl rfl
def B_gc_edgesComing : bd := (⟨"GateCounter", "edgesComing", "(I)I"⟩, prog_1_method_17_code, 3, (some .int), [], 5, 5)
theorem m_gc_edgesComing : mV B_gc_edgesComing 5 1 := ⟨⟨⟨by decide +kernel, Or.inl rfl⟩, rfl, (List.mem_of_getElem? (i := 1336) (by decide +kernel)), by decide +kernel, (List.mem_of_getElem? (i := 95) (by decide +kernel)), ⟨by decide, by decide⟩, by decide⟩, rfl, (by unfold nar; decide +kernel), (List.mem_of_getElem? (i := 1335) (by decide +kernel)), rfl, (List.mem_of_getElem? (i := 31) (by decide +kernel))⟩
noncomputable def F_gc_edgesComing (N : Nat) (a0 : Nat) (b1 : Int32) (S : shp) (v : vl) : Option (Int32 × shp × vl) :=
  grd (kin S a0 = some (0, 5)) <| (gr S a0 6).bind fun r2 => (F_gc_fresh N a0 r2 S v).bind fun (q4, S5, w6) => oc2 q4 none fun r8 => grd (kin S5 r8 = some (0, 4)) <| (gr S5 r8 7).bind fun r10 => (gr S5 a0 5).bind fun r12 => grd (kin S5 r12 = some (0, 4)) <| grd (kin S5 r10 = some (0, 3)) <| (F_sg_passTo N r10 ((gi w6 r12 0) + b1) S5 w6).bind fun w16 => (gr S5 r12 7).bind fun r17 => grd (kin S5 r17 = some (0, 3)) <| some ((((gi w16 r10 2) - (gi w16 r17 2)), S5, w16))
theorem ok_gc_edgesComing (N : Nat) (a0 : Nat) (b1 : Int32) (S : shp) (v : vl) : SimK B_gc_edgesComing 0 (entB (bN B_gc_edgesComing) [.ref a0, .int b1]) [] S v (F_gc_edgesComing N a0 b1 S v) (ρgi) := by
  show SimK B_gc_edgesComing 0 [some (.ref a0), some (.int b1), none] [] S v (F_gc_edgesComing N a0 b1 S v) _
  unfold F_gc_edgesComing
  refine sim_grd fun h1 => ?_
  refine sim_bind fun r2 h3 => ?_
  refine sim_seg [(.aload_n 0, 0, 0, 0), (.aload_n 0, 0, 0, 0), (.getfield 30, 5, 6, 0)] [r2] (q := 5) (L' := [some (.ref a0), some (.int b1), none]) (st' := [.ref r2, .ref a0]) (v1 := v) (by decide +kernel) rfl ⟨⟨h1, h3⟩, trivial⟩ ?_
  refine sc_gq (pc3 := 8) (cf_V (idx := 196) (ci := 5) [.ref r2] m_gc_fresh (by decide) ⟨by decide, by decide⟩ (List.mem_of_getElem? (i := 645) (by decide +kernel)) rfl (Nat.le_of_ble_eq_true rfl) h1 (by decide +kernel) (Nat.le_of_ble_eq_true rfl) rfl) (ok_gc_fresh N a0 r2 S v) rfl (fun q4 S5 w6 h7 => ?_)
  refine sim_oc2 (fun _ => sim_none) (fun r8 _ => ?_)
  refine sim_grd fun h9 => ?_
  refine sim_bind fun r10 h11 => ?_
  refine sim_seg [(.getfield 69, 4, 7, 0), (.astore_n 2, 0, 0, 0)] [r10] (q := 12) (L' := [some (.ref a0), some (.int b1), some (.ref r10)]) (st' := []) (v1 := w6) (by decide +kernel) rfl ⟨⟨h9, h11⟩, trivial⟩ ?_
  refine sim_bind fun r12 h13 => ?_
  refine sim_grd fun h14 => ?_
  refine sim_seg [(.aload_n 2, 0, 0, 0), (.aload_n 0, 0, 0, 0), (.getfield 26, 5, 5, 0), (.getfield 84, 4, 0, 0), (.iload_n 1, 0, 0, 0), (.iadd, 0, 0, 0)] [r12] (q := 22) (L' := [some (.ref a0), some (.int b1), some (.ref r10)]) (st' := [.int ((gi w6 r12 0) + b1), .ref r10]) (v1 := w6) (by decide +kernel) rfl ⟨⟨(h7.2.2.2.2 _ _ h1), h13⟩, h14, trivial⟩ ?_
  refine sim_grd fun h15 => ?_
  refine sc_pv (pc3 := 25) (cf_V (idx := 200) (ci := 3) [.int ((gi w6 r12 0) + b1)] m_sg_passTo (by decide) ⟨by decide, by decide⟩ (List.mem_of_getElem? (i := 812) (by decide +kernel)) rfl (Nat.le_of_ble_eq_true rfl) h15 (by decide +kernel) (Nat.le_of_ble_eq_true rfl) rfl) (ok_sg_passTo N r10 ((gi w6 r12 0) + b1) S5 w6) rfl (fun w16 => ?_)
  refine sim_bind fun r17 h18 => ?_
  refine sim_grd fun h19 => ?_
  refine sim_seg [(.aload_n 2, 0, 0, 0), (.getfield 96, 3, 2, 0), (.aload_n 0, 0, 0, 0), (.getfield 26, 5, 5, 0), (.getfield 69, 4, 7, 0), (.getfield 96, 3, 2, 0), (.isub, 0, 0, 0)] [r12, r17] (q := 40) (L' := [some (.ref a0), some (.int b1), some (.ref r10)]) (st' := [.int ((gi w16 r10 2) - (gi w16 r17 2))]) (v1 := w16) (by decide +kernel) rfl ⟨h15, ⟨(h7.2.2.2.2 _ _ h1), h13⟩, ⟨h14, h18⟩, h19, trivial⟩ ?_
  exact sim_iret (by decide +kernel) rfl rfl rfl
def B_gc_edgesIn : bd := (⟨"GateCounter", "edgesIn", "(I)I"⟩, prog_1_method_16_code, 2, (some .int), [], 5, 8)
theorem m_gc_edgesIn : mV B_gc_edgesIn 5 1 := ⟨⟨⟨by decide +kernel, Or.inl rfl⟩, rfl, (List.mem_of_getElem? (i := 1331) (by decide +kernel)), by decide +kernel, (List.mem_of_getElem? (i := 95) (by decide +kernel)), ⟨by decide, by decide⟩, by decide⟩, rfl, (by unfold nar; decide +kernel), (List.mem_of_getElem? (i := 1329) (by decide +kernel)), rfl, (List.mem_of_getElem? (i := 1330) (by decide +kernel))⟩
noncomputable def F_gc_edgesIn (N : Nat) (a0 : Nat) (b1 : Int32) (S : shp) (v : vl) : Option (Nat ⊕ (Int32 × shp × vl)) :=
  bx (F_gc_requireWithin b1 (J 0) (J 100000) S v) (fun k0 => some (.inl k0)) fun _ => grd (kin S a0 = some (0, 5)) <| (F_gc_edgesComing N a0 b1 S v).bind fun (x2, S3, w4) => some (.inr (x2, S3, w4))
theorem ok_gc_edgesIn (N : Nat) (a0 : Nat) (b1 : Int32) (S : shp) (v : vl) : SimK B_gc_edgesIn 0 (entB (bN B_gc_edgesIn) [.ref a0, .int b1]) [] S v (F_gc_edgesIn N a0 b1 S v) (ρzi S v) := by
  show SimK B_gc_edgesIn 0 [some (.ref a0), some (.int b1)] [] S v (F_gc_edgesIn N a0 b1 S v) _
  unfold F_gc_edgesIn
  refine sim_seg [(.iload_n 1, 0, 0, 0), (.iconst 0, 0, 0, 0), (.ldc 192, 0, 0, 100000)] [] (q := 4) (L' := [some (.ref a0), some (.int b1)]) (st' := [.int (J 100000), .int (J 0), .int b1]) (v1 := v) (by decide +kernel) rfl trivial ?_
  refine sc_xv (pc3 := 7) (cf_S (idx := 170) [.int b1, .int (J 0), .int (J 100000)] m_gc_requireWithin ⟨by decide, by decide⟩ (List.mem_of_getElem? (i := 1321) (by decide +kernel)) rfl (Nat.le_of_ble_eq_true rfl) (by decide +kernel) (Nat.le_of_ble_eq_true rfl) rfl) (ok_gc_requireWithin b1 (J 0) (J 100000) S v) rfl rfl (fun k0 b hb => by cases hb; rfl) (fun _ => ?_)
  refine sim_seg [(.aload_n 0, 0, 0, 0), (.iload_n 1, 0, 0, 0)] [] (q := 9) (L' := [some (.ref a0), some (.int b1)]) (st' := [.int b1, .ref a0]) (v1 := v) (by decide +kernel) rfl trivial ?_
  refine sim_grd fun h1 => ?_
  refine sc_gi (pc3 := 12) (cf_V (idx := 193) (ci := 5) [.int b1] m_gc_edgesComing (by decide) ⟨by decide, by decide⟩ (List.mem_of_getElem? (i := 1333) (by decide +kernel)) rfl (Nat.le_of_ble_eq_true rfl) h1 (by decide +kernel) (Nat.le_of_ble_eq_true rfl) rfl) (ok_gc_edgesComing N a0 b1 S v) rfl (fun x2 S3 w4 h5 => ?_)
  exact sim_iret (by decide +kernel) rfl rfl rfl
