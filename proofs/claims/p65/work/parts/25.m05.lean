/-! Methods: gc_set, as_newLength, ab_newCapacity, ar_copyOf, ab_ensureCapacityInternal, ab_isLatin1, l1_canEncode, ab_append3, sb_append3, ji_getChars, ji_stringSize, ab_append2, sb_append2, ab_inflateIfNeededFor, js_getBytes, ab_putStringAt, ab_append, sb_append, js_isLatin1_m, js_charAt_m, js_coder_m, js_length_m, ab_getValue, ab_length, sb_length, ar_checkLength, ar_copyOfRangeByte, ar_copyOfRange, js_init2. -/
def B_gc_set : bd := (⟨"GateCounter", "set", "(II)I"⟩, prog_1_method_55_code, 4, (some .int), [], 5, 7)
theorem m_gc_set : mV B_gc_set 5 2 := ⟨⟨⟨by decide +kernel, Or.inl rfl⟩, rfl, (List.mem_of_getElem? (i := 1154) (by decide +kernel)), by decide +kernel, (List.mem_of_getElem? (i := 57) (by decide +kernel)), ⟨by decide, by decide⟩, by decide⟩, rfl, (by unfold nar; decide +kernel), (List.mem_of_getElem? (i := 1152) (by decide +kernel)), rfl, (List.mem_of_getElem? (i := 1153) (by decide +kernel))⟩
noncomputable def F_gc_set (N : Nat) (a0 : Nat) (b1 : Int32) (b2 : Int32) (S : shp) (v : vl) : Option (Nat ⊕ (Int32 × shp × vl)) :=
  (F_gc_maySet b1 b2 S v).bind fun x1 => bx (F_gc_require x1 S v) (fun k0 => some (.inl k0)) fun _ => grd (kin S a0 = some (0, 5)) <| bx (F_gc_setting a0 b1 S v) (fun k0 => some (.inl k0)) fun x3 => (F_gc_keepForUndo N a0 S v).bind fun (S4, w5) => (if b1 = (J 1) then (gr S4 a0 5).bind fun r7 => grd (kin S4 r7 = some (0, 4)) <| (gr S4 r7 6).bind fun r10 => grd (kin S4 r10 = some (0, 0)) <| lt (si w5 r10 1 b2) fun w13 => some (.inr (x3, S4, w13)) else (if b1 = (J 2) then (gr S4 a0 5).bind fun r14 => grd (kin S4 r14 = some (0, 4)) <| (gr S4 r14 6).bind fun r17 => grd (kin S4 r17 = some (0, 0)) <| lt (si w5 r17 2 b2) fun w20 => some (.inr (x3, S4, w20)) else (if b1 = (J 4) then (gr S4 a0 5).bind fun r21 => grd (kin S4 r21 = some (0, 4)) <| lt (si w5 r21 1 b2) fun w24 => some (.inr (x3, S4, w24)) else (if b1 = (J 5) then (gr S4 a0 5).bind fun r25 => grd (kin S4 r25 = some (0, 4)) <| lt (si w5 r25 2 b2) fun w28 => some (.inr (x3, S4, w28)) else (gr S4 a0 5).bind fun r29 => grd (kin S4 r29 = some (0, 4)) <| lt (si w5 r29 3 b2) fun w32 => some (.inr (x3, S4, w32))))))
theorem ok_gc_set (N : Nat) (a0 : Nat) (b1 : Int32) (b2 : Int32) (S : shp) (v : vl) : SimK B_gc_set 0 (entB (bN B_gc_set) [.ref a0, .int b1, .int b2]) [] S v (F_gc_set N a0 b1 b2 S v) (ρzi S v) := by
  show SimK B_gc_set 0 [some (.ref a0), some (.int b1), some (.int b2), none] [] S v (F_gc_set N a0 b1 b2 S v) _
  unfold F_gc_set
  refine sim_seg [(.iload_n 1, 0, 0, 0), (.iload_n 2, 0, 0, 0)] [] (q := 2) (L' := [some (.ref a0), some (.int b1), some (.int b2), none]) (st' := [.int b2, .int b1]) (v1 := v) (by decide +kernel) rfl trivial ?_
  refine sc_ri (pc3 := 5) (cf_S (idx := 316) [.int b1, .int b2] m_gc_maySet ⟨by decide, by decide⟩ (List.mem_of_getElem? (i := 1155) (by decide +kernel)) rfl (Nat.le_of_ble_eq_true rfl) (by decide +kernel) (Nat.le_of_ble_eq_true rfl) rfl) (ok_gc_maySet b1 b2 S v) rfl (fun x1 => ?_)
  refine sc_xv (pc3 := 8) (cf_S (idx := 155) [.int x1] m_gc_require ⟨by decide, by decide⟩ (List.mem_of_getElem? (i := 1069) (by decide +kernel)) rfl (Nat.le_of_ble_eq_true rfl) (by decide +kernel) (Nat.le_of_ble_eq_true rfl) rfl) (ok_gc_require x1 S v) rfl rfl (fun k0 b hb => by cases hb; rfl) (fun _ => ?_)
  refine sim_seg [(.aload_n 0, 0, 0, 0), (.iload_n 1, 0, 0, 0)] [] (q := 10) (L' := [some (.ref a0), some (.int b1), some (.int b2), none]) (st' := [.int b1, .ref a0]) (v1 := v) (by decide +kernel) rfl trivial ?_
  refine sim_grd fun h2 => ?_
  refine sc_xi (pc3 := 13) (cf_V (idx := 320) (ci := 5) [.int b1] m_gc_setting (by decide) ⟨by decide, by decide⟩ (List.mem_of_getElem? (i := 1158) (by decide +kernel)) rfl (Nat.le_of_ble_eq_true rfl) h2 (by decide +kernel) (Nat.le_of_ble_eq_true rfl) rfl) (ok_gc_setting a0 b1 S v) rfl rfl (fun k0 b hb => by cases hb; rfl) (fun x3 => ?_)
  refine sim_seg [(.istore_n 3, 0, 0, 0)] [] (q := 14) (L' := [some (.ref a0), some (.int b1), some (.int b2), some (.int x3)]) (st' := []) (v1 := v) (by decide +kernel) rfl trivial ?_
  refine sim_seg [(.aload_n 0, 0, 0, 0)] [] (q := 15) (L' := [some (.ref a0), some (.int b1), some (.int b2), some (.int x3)]) (st' := [.ref a0]) (v1 := v) (by decide +kernel) rfl trivial ?_
  refine sc_gv (pc3 := 18) (cf_V (idx := 289) (ci := 5) [] m_gc_keepForUndo (by decide) ⟨by decide, by decide⟩ (List.mem_of_getElem? (i := 1008) (by decide +kernel)) rfl (Nat.le_of_ble_eq_true rfl) h2 (by decide +kernel) (Nat.le_of_ble_eq_true rfl) rfl) (ok_gc_keepForUndo N a0 S v) rfl (fun S4 w5 h6 => ?_)
  refine sim_seg [(.iload_n 1, 0, 0, 0), (.iconst 1, 0, 0, 1)] [] (q := 20) (L' := [some (.ref a0), some (.int b1), some (.int b2), some (.int x3)]) (st' := [.int (J 1), .int b1]) (v1 := w5) (by decide +kernel) rfl trivial ?_
  refine sim_ne (o := 17) (tg := 37) (f := 23) (by decide +kernel) rfl rfl (fun _ => ?_) (fun _ => ?_)
  · refine sim_bind fun r7 h8 => ?_
    refine sim_grd fun h9 => ?_
    refine sim_bind fun r10 h11 => ?_
    refine sim_grd fun h12 => ?_
    refine sim_seg [(.aload_n 0, 0, 0, 0), (.getfield 26, 5, 5, 0), (.getfield 87, 4, 6, 0), (.iload_n 2, 0, 0, 0), (.putfield 115, 0, 1, 0), (.goto 62, 0, 0, 0), (.iload_n 3, 0, 0, 0)] [r7, r10] (q := 97) (L' := [some (.ref a0), some (.int b1), some (.int b2), some (.int x3)]) (st' := [.int x3]) (v1 := (si w5 r10 1 b2)) (by decide +kernel) rfl ⟨⟨(h6.2.2.2.2 _ _ h2), h8⟩, ⟨h9, h11⟩, h12, trivial⟩ ?_
    refine sim_lt (x := (si w5 r10 1 b2)) ?_
    generalize (si w5 r10 1 b2) = w13
    exact sim_iret (by decide +kernel) rfl rfl rfl
  · refine sim_seg [(.iload_n 1, 0, 0, 0), (.iconst 2, 0, 0, 2)] [] (q := 39) (L' := [some (.ref a0), some (.int b1), some (.int b2), some (.int x3)]) (st' := [.int (J 2), .int b1]) (v1 := w5) (by decide +kernel) rfl trivial ?_
    refine sim_ne (o := 17) (tg := 56) (f := 42) (by decide +kernel) rfl rfl (fun _ => ?_) (fun _ => ?_)
    · refine sim_bind fun r14 h15 => ?_
      refine sim_grd fun h16 => ?_
      refine sim_bind fun r17 h18 => ?_
      refine sim_grd fun h19 => ?_
      refine sim_seg [(.aload_n 0, 0, 0, 0), (.getfield 26, 5, 5, 0), (.getfield 87, 4, 6, 0), (.iload_n 2, 0, 0, 0), (.putfield 118, 0, 2, 0), (.goto 43, 0, 0, 0), (.iload_n 3, 0, 0, 0)] [r14, r17] (q := 97) (L' := [some (.ref a0), some (.int b1), some (.int b2), some (.int x3)]) (st' := [.int x3]) (v1 := (si w5 r17 2 b2)) (by decide +kernel) rfl ⟨⟨(h6.2.2.2.2 _ _ h2), h15⟩, ⟨h16, h18⟩, h19, trivial⟩ ?_
      refine sim_lt (x := (si w5 r17 2 b2)) ?_
      generalize (si w5 r17 2 b2) = w20
      exact sim_iret (by decide +kernel) rfl rfl rfl
    · refine sim_seg [(.iload_n 1, 0, 0, 0), (.iconst 4, 0, 0, 4)] [] (q := 58) (L' := [some (.ref a0), some (.int b1), some (.int b2), some (.int x3)]) (st' := [.int (J 4), .int b1]) (v1 := w5) (by decide +kernel) rfl trivial ?_
      refine sim_ne (o := 14) (tg := 72) (f := 61) (by decide +kernel) rfl rfl (fun _ => ?_) (fun _ => ?_)
      · refine sim_bind fun r21 h22 => ?_
        refine sim_grd fun h23 => ?_
        refine sim_seg [(.aload_n 0, 0, 0, 0), (.getfield 26, 5, 5, 0), (.iload_n 2, 0, 0, 0), (.putfield 124, 4, 1, 0), (.goto 27, 0, 0, 0), (.iload_n 3, 0, 0, 0)] [r21] (q := 97) (L' := [some (.ref a0), some (.int b1), some (.int b2), some (.int x3)]) (st' := [.int x3]) (v1 := (si w5 r21 1 b2)) (by decide +kernel) rfl ⟨⟨(h6.2.2.2.2 _ _ h2), h22⟩, h23, trivial⟩ ?_
        refine sim_lt (x := (si w5 r21 1 b2)) ?_
        generalize (si w5 r21 1 b2) = w24
        exact sim_iret (by decide +kernel) rfl rfl rfl
      · refine sim_seg [(.iload_n 1, 0, 0, 0), (.iconst 5, 0, 0, 5)] [] (q := 74) (L' := [some (.ref a0), some (.int b1), some (.int b2), some (.int x3)]) (st' := [.int (J 5), .int b1]) (v1 := w5) (by decide +kernel) rfl trivial ?_
        refine sim_ne (o := 14) (tg := 88) (f := 77) (by decide +kernel) rfl rfl (fun _ => ?_) (fun _ => ?_)
        · refine sim_bind fun r25 h26 => ?_
          refine sim_grd fun h27 => ?_
          refine sim_seg [(.aload_n 0, 0, 0, 0), (.getfield 26, 5, 5, 0), (.iload_n 2, 0, 0, 0), (.putfield 127, 4, 2, 0), (.goto 11, 0, 0, 0), (.iload_n 3, 0, 0, 0)] [r25] (q := 97) (L' := [some (.ref a0), some (.int b1), some (.int b2), some (.int x3)]) (st' := [.int x3]) (v1 := (si w5 r25 2 b2)) (by decide +kernel) rfl ⟨⟨(h6.2.2.2.2 _ _ h2), h26⟩, h27, trivial⟩ ?_
          refine sim_lt (x := (si w5 r25 2 b2)) ?_
          generalize (si w5 r25 2 b2) = w28
          exact sim_iret (by decide +kernel) rfl rfl rfl
        · refine sim_bind fun r29 h30 => ?_
          refine sim_grd fun h31 => ?_
          refine sim_seg [(.aload_n 0, 0, 0, 0), (.getfield 26, 5, 5, 0), (.iload_n 2, 0, 0, 0), (.putfield 130, 4, 3, 0), (.iload_n 3, 0, 0, 0)] [r29] (q := 97) (L' := [some (.ref a0), some (.int b1), some (.int b2), some (.int x3)]) (st' := [.int x3]) (v1 := (si w5 r29 3 b2)) (by decide +kernel) rfl ⟨⟨(h6.2.2.2.2 _ _ h2), h30⟩, h31, trivial⟩ ?_
          refine sim_lt (x := (si w5 r29 3 b2)) ?_
          generalize (si w5 r29 3 b2) = w32
          exact sim_iret (by decide +kernel) rfl rfl rfl
def B_as_newLength : bd := (⟨"jdk/internal/util/ArraysSupport", "newLength", "(III)I"⟩, prog_26_method_27_code, 4, (some .int), [], 16, 1)
theorem m_as_newLength : mS B_as_newLength 3 := ⟨⟨⟨by decide +kernel, Or.inl rfl⟩, rfl, (List.mem_of_getElem? (i := 566) (by decide +kernel)), by decide +kernel, (List.mem_of_getElem? (i := 49) (by decide +kernel)), ⟨by decide, by decide⟩, by decide⟩, rfl, (by unfold nar; decide +kernel), (List.mem_of_getElem? (i := 565) (by decide +kernel))⟩
noncomputable def F_as_newLength (b0 : Int32) (b1 : Int32) (b2 : Int32) (S : shp) (v : vl) : Option Int32 :=
  (F_ma_max b1 b2 S v).bind fun x1 => (if (J 0) < (b0 + x1) then (if (J 2147483639) < (b0 + x1) then none else some ((b0 + x1))) else none)
theorem ok_as_newLength (b0 : Int32) (b1 : Int32) (b2 : Int32) (S : shp) (v : vl) : SimK B_as_newLength 0 (entB (bN B_as_newLength) [.int b0, .int b1, .int b2]) [] S v (F_as_newLength b0 b1 b2 S v) (ρri S v) := by
  show SimK B_as_newLength 0 [some (.int b0), some (.int b1), some (.int b2), none] [] S v (F_as_newLength b0 b1 b2 S v) _
  unfold F_as_newLength
  refine sim_seg [(.iload_n 0, 0, 0, 0), (.iload_n 1, 0, 0, 0), (.iload_n 2, 0, 0, 0)] [] (q := 3) (L' := [some (.int b0), some (.int b1), some (.int b2), none]) (st' := [.int b2, .int b1, .int b0]) (v1 := v) (by decide +kernel) rfl trivial ?_
  refine sc_ri (pc3 := 6) (cf_S (idx := 194) [.int b1, .int b2] m_ma_max ⟨by decide, by decide⟩ (List.mem_of_getElem? (i := 567) (by decide +kernel)) rfl (Nat.le_of_ble_eq_true rfl) (by decide +kernel) (Nat.le_of_ble_eq_true rfl) rfl) (ok_ma_max b1 b2 S v) rfl (fun x1 => ?_)
  refine sim_seg [(.iadd, 0, 0, 0), (.istore_n 3, 0, 0, 0)] [] (q := 8) (L' := [some (.int b0), some (.int b1), some (.int b2), some (.int (b0 + x1))]) (st' := []) (v1 := v) (by decide +kernel) rfl trivial ?_
  refine sim_seg [(.iconst 0, 0, 0, 0), (.iload_n 3, 0, 0, 0)] [] (q := 10) (L' := [some (.int b0), some (.int b1), some (.int b2), some (.int (b0 + x1))]) (st' := [.int (b0 + x1), .int (J 0)]) (v1 := v) (by decide +kernel) rfl trivial ?_
  refine sim_ge (o := 11) (tg := 21) (f := 13) (by decide +kernel) rfl rfl (fun _ => ?_) (fun _ => ?_)
  · refine sim_seg [(.iload_n 3, 0, 0, 0), (.ldc 200, 0, 0, 2147483639)] [] (q := 16) (L' := [some (.int b0), some (.int b1), some (.int b2), some (.int (b0 + x1))]) (st' := [.int (J 2147483639), .int (b0 + x1)]) (v1 := v) (by decide +kernel) rfl trivial ?_
    refine sim_gt (o := 5) (tg := 21) (f := 19) (by decide +kernel) rfl rfl (fun _ => ?_) (fun _ => ?_)
    · exact sim_none
    · refine sim_seg [(.iload_n 3, 0, 0, 0)] [] (q := 20) (L' := [some (.int b0), some (.int b1), some (.int b2), some (.int (b0 + x1))]) (st' := [.int (b0 + x1)]) (v1 := v) (by decide +kernel) rfl trivial ?_
      exact sim_iret (by decide +kernel) rfl rfl rfl
  · exact sim_none
def B_ab_newCapacity : bd := (⟨"java/lang/AbstractStringBuilder", "newCapacity", "(I)I"⟩, prog_9_method_10_code, 6, (some .int), [], 8, 2)
theorem m_ab_newCapacity : mU B_ab_newCapacity 1 := ⟨⟨⟨by decide +kernel, Or.inl rfl⟩, rfl, (List.mem_of_getElem? (i := 563) (by decide +kernel)), by decide +kernel, (List.mem_of_getElem? (i := 45) (by decide +kernel)), ⟨by decide, by decide⟩, by decide⟩, rfl, (by unfold nar; decide +kernel), (List.mem_of_getElem? (i := 562) (by decide +kernel)), (List.mem_of_getElem? (i := 1) (by decide +kernel)), (List.mem_of_getElem? (i := 1219) (by decide +kernel))⟩
theorem m_ab_newCapacityP : mP B_ab_newCapacity 1 := ⟨⟨⟨by decide +kernel, Or.inl rfl⟩, rfl, (List.mem_of_getElem? (i := 563) (by decide +kernel)), by decide +kernel, (List.mem_of_getElem? (i := 45) (by decide +kernel)), ⟨by decide, by decide⟩, by decide⟩, rfl, (by unfold nar; decide +kernel), (List.mem_of_getElem? (i := 562) (by decide +kernel)), (List.mem_of_getElem? (i := 1219) (by decide +kernel)), (List.mem_of_getElem? (i := 314) (by decide +kernel)), by decide⟩
noncomputable def F_ab_newCapacity (a0 : Nat) (b1 : Int32) (S : shp) (v : vl) : Option Int32 :=
  grd (kin S a0 = some (0, 7)) <| (gr S a0 0).bind fun r2 => grd (isArr (kin S r2)) <| lt ((b1 <<< ((gi v a0 1) &&& 31)) - (nI (alen S r2))) fun x5 => (F_as_newLength (nI (alen S r2)) x5 ((nI (alen S r2)) + ((J 2) <<< ((gi v a0 1) &&& 31))) S v).bind fun x6 => (if x6 = (J 2147483647) then none else some ((x6 >>> ((gi v a0 1) &&& 31))))
theorem ok_ab_newCapacity (a0 : Nat) (b1 : Int32) (S : shp) (v : vl) : SimK B_ab_newCapacity 0 (entB (bN B_ab_newCapacity) [.ref a0, .int b1]) [] S v (F_ab_newCapacity a0 b1 S v) (ρri S v) := by
  show SimK B_ab_newCapacity 0 [some (.ref a0), some (.int b1), none, none, none, none] [] S v (F_ab_newCapacity a0 b1 S v) _
  unfold F_ab_newCapacity
  refine sim_grd fun h1 => ?_
  refine sim_bind fun r2 h3 => ?_
  refine sim_grd fun h4 => ?_
  refine sim_seg [(.aload_n 0, 0, 0, 0), (.getfield 15, 7, 0, 0), (.arraylength, 0, 0, 0), (.istore_n 2, 0, 0, 0)] [r2] (q := 6) (L' := [some (.ref a0), some (.int b1), some (.int (nI (alen S r2))), none, none, none]) (st' := []) (v1 := v) (by decide +kernel) rfl ⟨⟨h1, h3⟩, h4, trivial⟩ ?_
  refine sim_seg [(.iload_n 1, 0, 0, 0), (.aload_n 0, 0, 0, 0), (.getfield 22, 7, 1, 0), (.ishl, 0, 0, 0), (.istore_n 3, 0, 0, 0)] [] (q := 13) (L' := [some (.ref a0), some (.int b1), some (.int (nI (alen S r2))), some (.int (b1 <<< ((gi v a0 1) &&& 31))), none, none]) (st' := []) (v1 := v) (by decide +kernel) rfl ⟨h1, trivial⟩ ?_
  refine sim_seg [(.iload_n 3, 0, 0, 0), (.iload_n 2, 0, 0, 0), (.isub, 0, 0, 0), (.istore 4, 0, 0, 0)] [] (q := 18) (L' := [some (.ref a0), some (.int b1), some (.int (nI (alen S r2))), some (.int (b1 <<< ((gi v a0 1) &&& 31))), some (.int ((b1 <<< ((gi v a0 1) &&& 31)) - (nI (alen S r2)))), none]) (st' := []) (v1 := v) (by decide +kernel) rfl trivial ?_
  refine sim_nm ((b1 <<< ((gi v a0 1) &&& 31)) - (nI (alen S r2))) (fun x5 => [some (.ref a0), some (.int b1), some (.int (nI (alen S r2))), some (.int (b1 <<< ((gi v a0 1) &&& 31))), some (.int x5), none]) (fun x5 => []) (fun x5 => ?_) rfl rfl
  refine sim_seg [(.iload_n 2, 0, 0, 0), (.iload 4, 0, 0, 0), (.iload_n 2, 0, 0, 0), (.iconst 2, 0, 0, 2), (.aload_n 0, 0, 0, 0), (.getfield 22, 7, 1, 0), (.ishl, 0, 0, 0), (.iadd, 0, 0, 0)] [] (q := 29) (L' := [some (.ref a0), some (.int b1), some (.int (nI (alen S r2))), some (.int (b1 <<< ((gi v a0 1) &&& 31))), some (.int x5), none]) (st' := [.int ((nI (alen S r2)) + ((J 2) <<< ((gi v a0 1) &&& 31))), .int x5, .int (nI (alen S r2))]) (v1 := v) (by decide +kernel) rfl ⟨h1, trivial⟩ ?_
  refine sc_ri (pc3 := 32) (cf_S (idx := 114) [.int (nI (alen S r2)), .int x5, .int ((nI (alen S r2)) + ((J 2) <<< ((gi v a0 1) &&& 31)))] m_as_newLength ⟨by decide, by decide⟩ (List.mem_of_getElem? (i := 564) (by decide +kernel)) rfl (Nat.le_of_ble_eq_true rfl) (by decide +kernel) (Nat.le_of_ble_eq_true rfl) rfl) (ok_as_newLength (nI (alen S r2)) x5 ((nI (alen S r2)) + ((J 2) <<< ((gi v a0 1) &&& 31))) S v) rfl (fun x6 => ?_)
  refine sim_seg [(.istore 5, 0, 0, 0)] [] (q := 34) (L' := [some (.ref a0), some (.int b1), some (.int (nI (alen S r2))), some (.int (b1 <<< ((gi v a0 1) &&& 31))), some (.int x5), some (.int x6)]) (st' := []) (v1 := v) (by decide +kernel) rfl trivial ?_
  refine sim_seg [(.iload 5, 0, 0, 0), (.ldc 39, 0, 0, 2147483647)] [] (q := 38) (L' := [some (.ref a0), some (.int b1), some (.int (nI (alen S r2))), some (.int (b1 <<< ((gi v a0 1) &&& 31))), some (.int x5), some (.int x6)]) (st' := [.int (J 2147483647), .int x6]) (v1 := v) (by decide +kernel) rfl trivial ?_
  refine sim_ne (o := 13) (tg := 51) (f := 41) (by decide +kernel) rfl rfl (fun _ => ?_) (fun _ => ?_)
  · exact sim_none
  · refine sim_seg [(.iload 5, 0, 0, 0), (.aload_n 0, 0, 0, 0), (.getfield 22, 7, 1, 0), (.ishr, 0, 0, 0)] [] (q := 58) (L' := [some (.ref a0), some (.int b1), some (.int (nI (alen S r2))), some (.int (b1 <<< ((gi v a0 1) &&& 31))), some (.int x5), some (.int x6)]) (st' := [.int (x6 >>> ((gi v a0 1) &&& 31))]) (v1 := v) (by decide +kernel) rfl ⟨h1, trivial⟩ ?_
    exact sim_iret (by decide +kernel) rfl rfl rfl
def B_ar_copyOf : bd := (⟨"java/util/Arrays", "copyOf", "([BI)[B"⟩, prog_25_method_121_code, 3, (some (.array .byte)), [], 13, 2)
theorem m_ar_copyOf : mS B_ar_copyOf 2 := ⟨⟨⟨by decide +kernel, Or.inl rfl⟩, rfl, (List.mem_of_getElem? (i := 577) (by decide +kernel)), by decide +kernel, (List.mem_of_getElem? (i := 51) (by decide +kernel)), ⟨by decide, by decide⟩, by decide⟩, rfl, (by unfold nar; decide +kernel), (List.mem_of_getElem? (i := 576) (by decide +kernel))⟩
noncomputable def F_ar_copyOf (a0 : Nat) (b1 : Int32) (S : shp) (v : vl) : Option ((Option Nat) × shp × vl) :=
  grd (isArr (kin S a0)) <| (if b1 = (nI (alen S a0)) then grd (kin S a0 = some (2, alen S a0)) <| grd (∀ j, j < alen S a0 → fits .byte (.int (gi v a0 j)) = true) <| grd (kin S (nxt S) = none) <| lt3 (grow S (2, alen S a0) (alen S a0)) (nxt S) (cpy (zero v (nxt S)) a0 0 (nxt S) 0 (alen S a0)) fun S5 r6 v7 => some (((some r6), S5, v7)) else grd (¬ b1 < 0) <| grd ((Int32.toNatClampNeg b1) ≤ 65536) <| grd (kin S (nxt S) = none) <| lt3 (grow S (2, (Int32.toNatClampNeg b1)) (Int32.toNatClampNeg b1)) (nxt S) (zero v (nxt S)) fun S13 r14 v15 => grd (isArr (kin S13 a0)) <| (F_ma_min (nI (alen S13 a0)) b1 S13 v15).bind fun x19 => grd (kin S13 a0 = some (2, alen S13 a0)) <| grd ((¬ (J 0) < 0 ∧ ¬ (J 0) < 0 ∧ ¬ x19 < 0) ∧ (Int32.toNatClampNeg (J 0)) + (Int32.toNatClampNeg x19) ≤ alen S13 a0 ∧ (Int32.toNatClampNeg (J 0)) + (Int32.toNatClampNeg x19) ≤ alen S13 r14 ∧ ∀ i, i < (Int32.toNatClampNeg x19) → fits (aty 1) (.int (gi v15 a0 ((Int32.toNatClampNeg (J 0)) + i))) = true) <| lt (cpy v15 a0 (Int32.toNatClampNeg (J 0)) r14 (Int32.toNatClampNeg (J 0)) (Int32.toNatClampNeg x19)) fun w22 => some (((some r14), S13, w22)))
theorem ok_ar_copyOf (a0 : Nat) (b1 : Int32) (S : shp) (v : vl) : SimK B_ar_copyOf 0 (entB (bN B_ar_copyOf) [.ref a0, .int b1]) [] S v (F_ar_copyOf a0 b1 S v) (ρgq) := by
  show SimK B_ar_copyOf 0 [some (.ref a0), some (.int b1), none] [] S v (F_ar_copyOf a0 b1 S v) _
  unfold F_ar_copyOf
  refine sim_grd fun h1 => ?_
  refine sim_seg [(.iload_n 1, 0, 0, 0), (.aload_n 0, 0, 0, 0), (.arraylength, 0, 0, 0)] [] (q := 3) (L' := [some (.ref a0), some (.int b1), none]) (st' := [.int (nI (alen S a0)), .int b1]) (v1 := v) (by decide +kernel) rfl ⟨h1, trivial⟩ ?_
  refine sim_ne (o := 11) (tg := 14) (f := 6) (by decide +kernel) rfl rfl (fun _ => ?_) (fun _ => ?_)
  · refine sim_seg [(.aload_n 0, 0, 0, 0)] [] (q := 7) (L' := [some (.ref a0), some (.int b1), none]) (st' := [.ref a0]) (v1 := v) (by decide +kernel) rfl trivial ?_
    refine sim_grd fun h2 => ?_
    refine sim_grd fun h3 => ?_
    refine sim_grd fun h4 => ?_
    refine sim_clone (idx := 310) (ic := 311) (pc3 := 13) (by decide +kernel) (by decide +kernel) (List.mem_of_getElem? (i := 578) (by decide +kernel)) (List.mem_of_getElem? (i := 584) (by decide +kernel)) h2 (by decide) (Nat.le_of_ble_eq_true rfl) h3 rfl h4 (fun S5 r6 v7 h8 h9 => ?_)
    exact sim_aretS (by decide +kernel) rfl (Or.inr ⟨_, rfl⟩) rfl
  · refine sim_seg [(.iload_n 1, 0, 0, 0)] [] (q := 15) (L' := [some (.ref a0), some (.int b1), none]) (st' := [.int b1]) (v1 := v) (by decide +kernel) rfl trivial ?_
    refine sim_grd fun h10 => ?_
    refine sim_grd fun h11 => ?_
    refine sim_grd fun h12 => ?_
    refine sim_newa (ty := 1) (N := (Int32.toNatClampNeg b1)) (pc3 := 17) (by decide) (by decide +kernel) rfl h10 rfl h11 h12 (fun S13 r14 v15 h16 h17 => ?_)
    refine sim_seg [(.astore_n 2, 0, 0, 0)] [] (q := 18) (L' := [some (.ref a0), some (.int b1), some (.ref r14)]) (st' := []) (v1 := v15) (by decide +kernel) rfl trivial ?_
    refine sim_grd fun h18 => ?_
    refine sim_seg [(.aload_n 0, 0, 0, 0), (.iconst 0, 0, 0, 0), (.aload_n 2, 0, 0, 0), (.iconst 0, 0, 0, 0), (.aload_n 0, 0, 0, 0), (.arraylength, 0, 0, 0), (.iload_n 1, 0, 0, 0)] [] (q := 25) (L' := [some (.ref a0), some (.int b1), some (.ref r14)]) (st' := [.int b1, .int (nI (alen S13 a0)), .int (J 0), .ref r14, .int (J 0), .ref a0]) (v1 := v15) (by decide +kernel) rfl ⟨h18, trivial⟩ ?_
    refine sc_ri (pc3 := 28) (cf_S (idx := 304) [.int (nI (alen S13 a0)), .int b1] m_ma_min ⟨by decide, by decide⟩ (List.mem_of_getElem? (i := 585) (by decide +kernel)) rfl (Nat.le_of_ble_eq_true rfl) (by decide +kernel) (Nat.le_of_ble_eq_true rfl) rfl) (ok_ma_min (nI (alen S13 a0)) b1 S13 v15) rfl (fun x19 => ?_)
    refine sim_grd fun h20 => ?_
    refine sim_grd fun h21 => ?_
    refine sim_copy (idx := 150) (ty := 1) (pc3 := 31) (by decide) (by decide +kernel) (List.mem_of_getElem? (i := 588) (by decide +kernel)) (Or.inl h20) (kin_alen h17) h21 (by decide) (Nat.le_of_ble_eq_true rfl) rfl (fun w22 => ?_)
    refine sim_seg [(.aload_n 2, 0, 0, 0)] [] (q := 32) (L' := [some (.ref a0), some (.int b1), some (.ref r14)]) (st' := [.ref r14]) (v1 := w22) (by decide +kernel) rfl trivial ?_
    exact sim_aretS (by decide +kernel) rfl (Or.inr ⟨_, rfl⟩) rfl
def B_ab_ensureCapacityInternal : bd := (⟨"java/lang/AbstractStringBuilder", "ensureCapacityInternal", "(I)V"⟩, prog_9_method_9_code, 3, none, [], 8, 3)
theorem m_ab_ensureCapacityInternal : mU B_ab_ensureCapacityInternal 1 := ⟨⟨⟨by decide +kernel, Or.inl rfl⟩, rfl, (List.mem_of_getElem? (i := 559) (by decide +kernel)), by decide +kernel, (List.mem_of_getElem? (i := 45) (by decide +kernel)), ⟨by decide, by decide⟩, by decide⟩, rfl, (by unfold nar; decide +kernel), (List.mem_of_getElem? (i := 558) (by decide +kernel)), (List.mem_of_getElem? (i := 0) (by decide +kernel)), (List.mem_of_getElem? (i := 1218) (by decide +kernel))⟩
theorem m_ab_ensureCapacityInternalP : mP B_ab_ensureCapacityInternal 1 := ⟨⟨⟨by decide +kernel, Or.inl rfl⟩, rfl, (List.mem_of_getElem? (i := 559) (by decide +kernel)), by decide +kernel, (List.mem_of_getElem? (i := 45) (by decide +kernel)), ⟨by decide, by decide⟩, by decide⟩, rfl, (by unfold nar; decide +kernel), (List.mem_of_getElem? (i := 558) (by decide +kernel)), (List.mem_of_getElem? (i := 1218) (by decide +kernel)), (List.mem_of_getElem? (i := 314) (by decide +kernel)), by decide⟩
noncomputable def F_ab_ensureCapacityInternal (a0 : Nat) (b1 : Int32) (S : shp) (v : vl) : Option (shp × vl) :=
  grd (kin S a0 = some (0, 7)) <| (gr S a0 0).bind fun r2 => grd (isArr (kin S r2)) <| lt ((nI (alen S r2)) >>> ((gi v a0 1) &&& 31)) fun x5 => (if (J 0) < (b1 - x5) then (F_ab_newCapacity a0 b1 S v).bind fun x6 => (F_ar_copyOf r2 (x6 <<< ((gi v a0 1) &&& 31)) S v).bind fun (q7, S8, w9) => oc2 q7 none fun r11 => lt (sr S8 a0 0 (some r11)) fun S12 => some ((S12, w9)) else some ((S, v)))
theorem ok_ab_ensureCapacityInternal (a0 : Nat) (b1 : Int32) (S : shp) (v : vl) : SimK B_ab_ensureCapacityInternal 0 (entB (bN B_ab_ensureCapacityInternal) [.ref a0, .int b1]) [] S v (F_ab_ensureCapacityInternal a0 b1 S v) (ρgv) := by
  show SimK B_ab_ensureCapacityInternal 0 [some (.ref a0), some (.int b1), none] [] S v (F_ab_ensureCapacityInternal a0 b1 S v) _
  unfold F_ab_ensureCapacityInternal
  refine sim_grd fun h1 => ?_
  refine sim_bind fun r2 h3 => ?_
  refine sim_grd fun h4 => ?_
  refine sim_seg [(.aload_n 0, 0, 0, 0), (.getfield 15, 7, 0, 0), (.arraylength, 0, 0, 0), (.aload_n 0, 0, 0, 0), (.getfield 22, 7, 1, 0), (.ishr, 0, 0, 0), (.istore_n 2, 0, 0, 0)] [r2] (q := 11) (L' := [some (.ref a0), some (.int b1), some (.int ((nI (alen S r2)) >>> ((gi v a0 1) &&& 31)))]) (st' := []) (v1 := v) (by decide +kernel) rfl ⟨⟨h1, h3⟩, h4, h1, trivial⟩ ?_
  refine sim_nm ((nI (alen S r2)) >>> ((gi v a0 1) &&& 31)) (fun x5 => [some (.ref a0), some (.int b1), some (.int x5)]) (fun x5 => []) (fun x5 => ?_) rfl rfl
  refine sim_seg [(.iload_n 1, 0, 0, 0), (.iload_n 2, 0, 0, 0), (.isub, 0, 0, 0)] [] (q := 14) (L' := [some (.ref a0), some (.int b1), some (.int x5)]) (st' := [.int (b1 - x5)]) (v1 := v) (by decide +kernel) rfl trivial ?_
  refine sim_le0 (o := 24) (tg := 38) (f := 17) (by decide +kernel) rfl rfl (fun _ => ?_) (fun _ => ?_)
  · refine sim_seg [(.aload_n 0, 0, 0, 0), (.aload_n 0, 0, 0, 0), (.getfield 15, 7, 0, 0), (.aload_n 0, 0, 0, 0), (.iload_n 1, 0, 0, 0)] [r2] (q := 24) (L' := [some (.ref a0), some (.int b1), some (.int x5)]) (st' := [.int b1, .ref a0, .ref r2, .ref a0]) (v1 := v) (by decide +kernel) rfl ⟨⟨h1, h3⟩, trivial⟩ ?_
    refine sc_ri (pc3 := 27) (cf_U (idx := 104) [.int b1] m_ab_newCapacity ⟨by decide, by decide⟩ (List.mem_of_getElem? (i := 560) (by decide +kernel)) rfl (Nat.le_of_ble_eq_true rfl) h1 (by decide +kernel) (Nat.le_of_ble_eq_true rfl) rfl) (ok_ab_newCapacity a0 b1 S v) rfl (fun x6 => ?_)
    refine sim_seg [(.aload_n 0, 0, 0, 0), (.getfield 22, 7, 1, 0), (.ishl, 0, 0, 0)] [] (q := 32) (L' := [some (.ref a0), some (.int b1), some (.int x5)]) (st' := [.int (x6 <<< ((gi v a0 1) &&& 31)), .ref r2, .ref a0]) (v1 := v) (by decide +kernel) rfl ⟨h1, trivial⟩ ?_
    refine sc_gq (pc3 := 35) (cf_S (idx := 108) [.ref r2, .int (x6 <<< ((gi v a0 1) &&& 31))] m_ar_copyOf ⟨by decide, by decide⟩ (List.mem_of_getElem? (i := 575) (by decide +kernel)) rfl (Nat.le_of_ble_eq_true rfl) (by decide +kernel) (Nat.le_of_ble_eq_true rfl) rfl) (ok_ar_copyOf r2 (x6 <<< ((gi v a0 1) &&& 31)) S v) rfl (fun q7 S8 w9 h10 => ?_)
    refine sim_oc2 (fun _ => sim_none) (fun r11 _ => ?_)
    refine sim_putr (idx := 15) (ci := 7) (m := 0) (pc3 := 38) (by decide +kernel) (by decide) (Or.inl rfl) (h10.2.2.2.2 _ _ h1) rfl rfl (fun S12 h13 => ?_)
    exact sim_vret (by decide +kernel) rfl rfl
  · exact sim_vret (by decide +kernel) rfl rfl
def B_ab_isLatin1 : bd := (⟨"java/lang/AbstractStringBuilder", "isLatin1", "()Z"⟩, prog_9_method_68_code, 1, (some .boolean), [], 8, 0)
theorem m_ab_isLatin1 : mU B_ab_isLatin1 0 := ⟨⟨⟨by decide +kernel, Or.inl rfl⟩, rfl, (List.mem_of_getElem? (i := 593) (by decide +kernel)), by decide +kernel, (List.mem_of_getElem? (i := 45) (by decide +kernel)), ⟨by decide, by decide⟩, by decide⟩, rfl, (by unfold nar; decide +kernel), (List.mem_of_getElem? (i := 590) (by decide +kernel)), (List.mem_of_getElem? (i := 592) (by decide +kernel)), (List.mem_of_getElem? (i := 591) (by decide +kernel))⟩
theorem m_ab_isLatin1P : mP B_ab_isLatin1 0 := ⟨⟨⟨by decide +kernel, Or.inl rfl⟩, rfl, (List.mem_of_getElem? (i := 593) (by decide +kernel)), by decide +kernel, (List.mem_of_getElem? (i := 45) (by decide +kernel)), ⟨by decide, by decide⟩, by decide⟩, rfl, (by unfold nar; decide +kernel), (List.mem_of_getElem? (i := 590) (by decide +kernel)), (List.mem_of_getElem? (i := 591) (by decide +kernel)), (List.mem_of_getElem? (i := 314) (by decide +kernel)), by decide⟩
noncomputable def F_ab_isLatin1 (a0 : Nat) (S : shp) (v : vl) : Option Int32 :=
  grd (kin S a0 = some (0, 7)) <| (if (gi v a0 1) = (J 0) then some ((J 1)) else some ((J 0)))
theorem ok_ab_isLatin1 (a0 : Nat) (S : shp) (v : vl) : SimK B_ab_isLatin1 0 (entB (bN B_ab_isLatin1) [.ref a0]) [] S v (F_ab_isLatin1 a0 S v) (ρri S v) := by
  show SimK B_ab_isLatin1 0 [some (.ref a0)] [] S v (F_ab_isLatin1 a0 S v) _
  unfold F_ab_isLatin1
  refine sim_gets (idx := 18) (m := 1) (pc3 := 3) (by decide) (by decide +kernel) (show Cond.fieldLink (owns (bO B_ab_isLatin1)) 18 "java/lang/String" "COMPACT_STRINGS" "Z" ∈ tb2 from (List.mem_of_getElem? (i := 293) (by decide +kernel))) rfl ?_
  show SimK _ _ _ ([.int (J 1)]) _ _ _ _
  refine sim_ifF (c := (J 1) = (J 0)) (by decide) (sim_eq0 (o := 14) (tg := 17) (f := 6) (by decide +kernel) rfl rfl (fun _ => sim_none) (fun _ => ?_))
  refine sim_grd fun h1 => ?_
  refine sim_seg [(.aload_n 0, 0, 0, 0), (.getfield 22, 7, 1, 0)] [] (q := 10) (L' := [some (.ref a0)]) (st' := [.int (gi v a0 1)]) (v1 := v) (by decide +kernel) rfl ⟨h1, trivial⟩ ?_
  refine sim_ne0 (o := 7) (tg := 17) (f := 13) (by decide +kernel) rfl rfl (fun _ => ?_) (fun _ => ?_)
  · refine sim_seg [(.iconst 1, 0, 0, 1), (.goto 4, 0, 0, 0)] [] (q := 18) (L' := [some (.ref a0)]) (st' := [.int (J 1)]) (v1 := v) (by decide +kernel) rfl trivial ?_
    exact sim_iret (by decide +kernel) rfl (by decide) rfl
  · refine sim_seg [(.iconst 0, 0, 0, 0)] [] (q := 18) (L' := [some (.ref a0)]) (st' := [.int (J 0)]) (v1 := v) (by decide +kernel) rfl trivial ?_
    exact sim_iret (by decide +kernel) rfl (by decide) rfl
def B_l1_canEncode : bd := (⟨"java/lang/StringLatin1", "canEncode", "(C)Z"⟩, prog_21_method_3_code, 1, (some .boolean), [], 10, 0)
theorem m_l1_canEncode : mS B_l1_canEncode 1 := ⟨⟨⟨by decide +kernel, Or.inl rfl⟩, rfl, (List.mem_of_getElem? (i := 683) (by decide +kernel)), by decide +kernel, (List.mem_of_getElem? (i := 54) (by decide +kernel)), ⟨by decide, by decide⟩, by decide⟩, rfl, (by unfold nar; decide +kernel), (List.mem_of_getElem? (i := 682) (by decide +kernel))⟩
noncomputable def F_l1_canEncode (b0 : Int32) (S : shp) (v : vl) : Option Int32 :=
  (if (J 255) < b0 then some ((J 0)) else some ((J 1)))
theorem ok_l1_canEncode (b0 : Int32) (S : shp) (v : vl) : SimK B_l1_canEncode 0 (entB (bN B_l1_canEncode) [.int b0]) [] S v (F_l1_canEncode b0 S v) (ρri S v) := by
  show SimK B_l1_canEncode 0 [some (.int b0)] [] S v (F_l1_canEncode b0 S v) _
  unfold F_l1_canEncode
  refine sim_seg [(.iload_n 0, 0, 0, 0), (.sipush 255, 0, 0, 255)] [] (q := 4) (L' := [some (.int b0)]) (st' := [.int (J 255), .int b0]) (v1 := v) (by decide +kernel) rfl trivial ?_
  refine sim_gt (o := 7) (tg := 11) (f := 7) (by decide +kernel) rfl rfl (fun _ => ?_) (fun _ => ?_)
  · refine sim_seg [(.iconst 0, 0, 0, 0)] [] (q := 12) (L' := [some (.int b0)]) (st' := [.int (J 0)]) (v1 := v) (by decide +kernel) rfl trivial ?_
    exact sim_iret (by decide +kernel) rfl (by decide) rfl
  · refine sim_seg [(.iconst 1, 0, 0, 1), (.goto 4, 0, 0, 0)] [] (q := 12) (L' := [some (.int b0)]) (st' := [.int (J 1)]) (v1 := v) (by decide +kernel) rfl trivial ?_
    exact sim_iret (by decide +kernel) rfl (by decide) rfl
def B_ab_append3 : bd := (⟨"java/lang/AbstractStringBuilder", "append", "(C)Ljava/lang/AbstractStringBuilder;"⟩, prog_9_method_31_code, 2, (some (.object "java/lang/AbstractStringBuilder")), [], 8, 4)
theorem m_ab_append3P : mP B_ab_append3 1 := ⟨⟨⟨by decide +kernel, Or.inl rfl⟩, rfl, (List.mem_of_getElem? (i := 680) (by decide +kernel)), by decide +kernel, (List.mem_of_getElem? (i := 45) (by decide +kernel)), ⟨by decide, by decide⟩, by decide⟩, rfl, (by unfold nar; decide +kernel), (List.mem_of_getElem? (i := 679) (by decide +kernel)), (List.mem_of_getElem? (i := 1224) (by decide +kernel)), (List.mem_of_getElem? (i := 314) (by decide +kernel)), by decide⟩
noncomputable def F_ab_append3 (a0 : Nat) (b1 : Int32) (S : shp) (v : vl) : Option ((Option Nat) × shp × vl) :=
  grd (kin S a0 = some (0, 7)) <| (F_ab_ensureCapacityInternal a0 ((gi v a0 3) + (J 1)) S v).bind fun (S2, w3) => (F_ab_isLatin1 a0 S2 w3).bind fun x5 => (if x5 = (J 0) then none else (F_l1_canEncode b1 S2 w3).bind fun x6 => (if x6 = (J 0) then none else (gr S2 a0 0).bind fun r7 => grd (kin S2 r7 = some (2, alen S2 r7)) <| grd (vp_in (gi w3 a0 3) (alen S2 r7)) <| lt (si (si w3 a0 3 ((gi w3 a0 3) + (J 1))) r7 (Int32.toNatClampNeg (gi w3 a0 3)) (Int8.toInt32 (Int32.toInt8 (Int8.toInt32 (Int32.toInt8 b1))))) fun w11 => some (((some a0), S2, w11))))
theorem ok_ab_append3 (a0 : Nat) (b1 : Int32) (S : shp) (v : vl) : SimK B_ab_append3 0 (entB (bN B_ab_append3) [.ref a0, .int b1]) [] S v (F_ab_append3 a0 b1 S v) (ρgq) := by
  show SimK B_ab_append3 0 [some (.ref a0), some (.int b1)] [] S v (F_ab_append3 a0 b1 S v) _
  unfold F_ab_append3
  refine sim_grd fun h1 => ?_
  refine sim_seg [(.aload_n 0, 0, 0, 0), (.aload_n 0, 0, 0, 0), (.getfield 79, 7, 3, 0), (.iconst 1, 0, 0, 1), (.iadd, 0, 0, 0)] [] (q := 7) (L' := [some (.ref a0), some (.int b1)]) (st' := [.int ((gi v a0 3) + (J 1)), .ref a0]) (v1 := v) (by decide +kernel) rfl ⟨h1, trivial⟩ ?_
  refine sc_gv (pc3 := 10) (cf_U (idx := 100) [.int ((gi v a0 3) + (J 1))] m_ab_ensureCapacityInternal ⟨by decide, by decide⟩ (List.mem_of_getElem? (i := 556) (by decide +kernel)) rfl (Nat.le_of_ble_eq_true rfl) h1 (by decide +kernel) (Nat.le_of_ble_eq_true rfl) rfl) (ok_ab_ensureCapacityInternal a0 ((gi v a0 3) + (J 1)) S v) rfl (fun S2 w3 h4 => ?_)
  refine sim_seg [(.aload_n 0, 0, 0, 0)] [] (q := 11) (L' := [some (.ref a0), some (.int b1)]) (st' := [.ref a0]) (v1 := w3) (by decide +kernel) rfl trivial ?_
  refine sc_ri (pc3 := 14) (cf_U (idx := 83) [] m_ab_isLatin1 ⟨by decide, by decide⟩ (List.mem_of_getElem? (i := 589) (by decide +kernel)) rfl (Nat.le_of_ble_eq_true rfl) (h4.2.2.2.2 _ _ h1) (by decide +kernel) (Nat.le_of_ble_eq_true rfl) rfl) (ok_ab_isLatin1 a0 S2 w3) rfl (fun x5 => ?_)
  refine sim_eq0 (o := 31) (tg := 45) (f := 17) (by decide +kernel) rfl rfl (fun _ => ?_) (fun _ => ?_)
  · exact sim_none
  · refine sim_seg [(.iload_n 1, 0, 0, 0)] [] (q := 18) (L' := [some (.ref a0), some (.int b1)]) (st' := [.int b1]) (v1 := w3) (by decide +kernel) rfl trivial ?_
    refine sc_ri (pc3 := 21) (cf_S (idx := 191) [.int b1] m_l1_canEncode ⟨by decide, by decide⟩ (List.mem_of_getElem? (i := 681) (by decide +kernel)) rfl (Nat.le_of_ble_eq_true rfl) (by decide +kernel) (Nat.le_of_ble_eq_true rfl) rfl) (ok_l1_canEncode b1 S2 w3) rfl (fun x6 => ?_)
    refine sim_eq0 (o := 24) (tg := 45) (f := 24) (by decide +kernel) rfl rfl (fun _ => ?_) (fun _ => ?_)
    · exact sim_none
    · refine sim_bind fun r7 h8 => ?_
      refine sim_grd fun h9 => ?_
      refine sim_grd fun h10 => ?_
      refine sim_seg [(.aload_n 0, 0, 0, 0), (.getfield 15, 7, 0, 0), (.aload_n 0, 0, 0, 0), (.dup, 0, 0, 0), (.getfield 79, 7, 3, 0), (.dup_x1, 0, 0, 0), (.iconst 1, 0, 0, 1), (.iadd, 0, 0, 0), (.putfield 79, 7, 3, 0), (.iload_n 1, 0, 0, 0), (.i2b, 0, 0, 0), (.bastore, 0, 0, 0)] [r7] (q := 42) (L' := [some (.ref a0), some (.int b1)]) (st' := []) (v1 := (si (si w3 a0 3 ((gi w3 a0 3) + (J 1))) r7 (Int32.toNatClampNeg (gi w3 a0 3)) (Int8.toInt32 (Int32.toInt8 (Int8.toInt32 (Int32.toInt8 b1)))))) (by decide +kernel) rfl ⟨⟨(h4.2.2.2.2 _ _ h1), h8⟩, (h4.2.2.2.2 _ _ h1), (h4.2.2.2.2 _ _ h1), ⟨h9, h10⟩, trivial⟩ ?_
      refine sim_lt (x := (si (si w3 a0 3 ((gi w3 a0 3) + (J 1))) r7 (Int32.toNatClampNeg (gi w3 a0 3)) (Int8.toInt32 (Int32.toInt8 (Int8.toInt32 (Int32.toInt8 b1)))))) ?_
      generalize (si (si w3 a0 3 ((gi w3 a0 3) + (J 1))) r7 (Int32.toNatClampNeg (gi w3 a0 3)) (Int8.toInt32 (Int32.toInt8 (Int8.toInt32 (Int32.toInt8 b1))))) = w11
      refine sim_seg [(.goto 33, 0, 0, 0), (.aload_n 0, 0, 0, 0)] [] (q := 76) (L' := [some (.ref a0), some (.int b1)]) (st' := [.ref a0]) (v1 := w11) (by decide +kernel) rfl trivial ?_
      exact sim_aretS (by decide +kernel) rfl (Or.inl ⟨_, rfl⟩) rfl
def B_sb_append3 : bd := (⟨"java/lang/StringBuilder", "append", "(C)Ljava/lang/StringBuilder;"⟩, prog_20_method_14_code, 2, (some (.object "java/lang/StringBuilder")), [], 7, 5)
theorem m_sb_append3 : mV B_sb_append3 7 1 := ⟨⟨⟨by decide +kernel, Or.inl rfl⟩, rfl, (List.mem_of_getElem? (i := 677) (by decide +kernel)), by decide +kernel, (List.mem_of_getElem? (i := 46) (by decide +kernel)), ⟨by decide, by decide⟩, by decide⟩, rfl, (by unfold nar; decide +kernel), (List.mem_of_getElem? (i := 675) (by decide +kernel)), rfl, (List.mem_of_getElem? (i := 676) (by decide +kernel))⟩
noncomputable def F_sb_append3 (a0 : Nat) (b1 : Int32) (S : shp) (v : vl) : Option ((Option Nat) × shp × vl) :=
  grd (kin S a0 = some (0, 7)) <| (F_ab_append3 a0 b1 S v).bind fun (q2, S3, w4) => oc2 q2 none fun r6 => some (((some a0), S3, w4))
theorem ok_sb_append3 (a0 : Nat) (b1 : Int32) (S : shp) (v : vl) : SimK B_sb_append3 0 (entB (bN B_sb_append3) [.ref a0, .int b1]) [] S v (F_sb_append3 a0 b1 S v) (ρgq) := by
  show SimK B_sb_append3 0 [some (.ref a0), some (.int b1)] [] S v (F_sb_append3 a0 b1 S v) _
  unfold F_sb_append3
  refine sim_seg [(.aload_n 0, 0, 0, 0), (.iload_n 1, 0, 0, 0)] [] (q := 2) (L' := [some (.ref a0), some (.int b1)]) (st' := [.int b1, .ref a0]) (v1 := v) (by decide +kernel) rfl trivial ?_
  refine sim_grd fun h1 => ?_
  refine sc_gq (pc3 := 5) (cf_P (idx := 50) [.int b1] m_ab_append3P ⟨by decide, by decide⟩ rfl (List.mem_of_getElem? (i := 678) (by decide +kernel)) rfl (Nat.le_of_ble_eq_true rfl) h1 (by decide +kernel) (Nat.le_of_ble_eq_true rfl) rfl) (ok_ab_append3 a0 b1 S v) rfl (fun q2 S3 w4 h5 => ?_)
  refine sim_oc2 (fun _ => sim_none) (fun r6 _ => ?_)
  refine sim_seg [(.pop, 0, 0, 0), (.aload_n 0, 0, 0, 0)] [] (q := 7) (L' := [some (.ref a0), some (.int b1)]) (st' := [.ref a0]) (v1 := w4) (by decide +kernel) rfl trivial ?_
  exact sim_aretS (by decide +kernel) rfl (Or.inl ⟨_, rfl⟩) rfl
def B_ji_getChars : bd := (⟨"java/lang/Integer", "getChars", "(II[B)I"⟩, prog_15_method_12_code, 7, (some .int), [], 14, 0)
theorem m_ji_getChars : mS B_ji_getChars 3 := ⟨⟨⟨by decide +kernel, Or.inl rfl⟩, rfl, (List.mem_of_getElem? (i := 656) (by decide +kernel)), by decide +kernel, (List.mem_of_getElem? (i := 56) (by decide +kernel)), ⟨by decide, by decide⟩, by decide⟩, rfl, (by unfold nar; decide +kernel), (List.mem_of_getElem? (i := 655) (by decide +kernel))⟩
noncomputable def Y_ji_getChars_22 (N : Nat)  (i22 : vl → Int32 → Nat → Int32 → Int32 → Option (Int32 × vl)) (S : shp) (v : vl) (p0 : Int32) (p2 : Nat) (p5 : Int32) (p6 : Int32) : Option (Int32 × vl) :=
  (if (J (-100)) < p0 then grd (kin S (kad S 2) = some (12, 100)) <| grd (vp_in (-p0) (alen S (kad S 2))) <| grd (kin S p2 = some (2, alen S p2)) <| grd (vp_in (p5 + (J (-1))) (alen S p2)) <| lt (si v p2 (Int32.toNatClampNeg (p5 + (J (-1)))) (Int8.toInt32 (Int32.toInt8 (gi v (kad S 2) (Int32.toNatClampNeg (-p0)))))) fun w5 => (if p0 < (J (-9)) then grd (kin S (kad S 1) = some (12, 100)) <| grd (vp_in (-p0) (alen S (kad S 1))) <| grd (vp_in ((p5 + (J (-1))) + (J (-1))) (alen S p2)) <| lt (si w5 p2 (Int32.toNatClampNeg ((p5 + (J (-1))) + (J (-1)))) (Int8.toInt32 (Int32.toInt8 (gi w5 (kad S 1) (Int32.toNatClampNeg (-p0)))))) fun w9 => (if p6 = (J 0) then some ((((p5 + (J (-1))) + (J (-1))), w9)) else lt (((p5 + (J (-1))) + (J (-1))) + (J (-1))) fun x10 => grd (vp_in x10 (alen S p2)) <| lt (si w9 p2 (Int32.toNatClampNeg x10) (Int8.toInt32 (Int32.toInt8 (J 45)))) fun w12 => some ((x10, w12))) else (if p6 = (J 0) then some (((p5 + (J (-1))), w5)) else grd (vp_in ((p5 + (J (-1))) + (J (-1))) (alen S p2)) <| lt (si w5 p2 (Int32.toNatClampNeg ((p5 + (J (-1))) + (J (-1)))) (Int8.toInt32 (Int32.toInt8 (J 45)))) fun w14 => some ((((p5 + (J (-1))) + (J (-1))), w14)))) else lt (((p0 / (J 100)) * (J 100)) - p0) fun x15 => grd (kin S (kad S 2) = some (12, 100)) <| grd (vp_in x15 (alen S (kad S 2))) <| grd (kin S p2 = some (2, alen S p2)) <| grd (vp_in (p5 + (J (-1))) (alen S p2)) <| lt (si v p2 (Int32.toNatClampNeg (p5 + (J (-1)))) (Int8.toInt32 (Int32.toInt8 (gi v (kad S 2) (Int32.toNatClampNeg x15))))) fun w20 => grd (kin S (kad S 1) = some (12, 100)) <| grd (vp_in x15 (alen S (kad S 1))) <| grd (vp_in ((p5 + (J (-1))) + (J (-1))) (alen S p2)) <| lt (si w20 p2 (Int32.toNatClampNeg ((p5 + (J (-1))) + (J (-1)))) (Int8.toInt32 (Int32.toInt8 (gi w20 (kad S 1) (Int32.toNatClampNeg x15))))) fun w24 => i22 w24 (p0 / (J 100)) p2 ((p5 + (J (-1))) + (J (-1))) p6)
noncomputable def K_ji_getChars_22 (N : Nat)  (n : Nat) (S : shp) : vl → Int32 → Nat → Int32 → Int32 → Option (Int32 × vl) :=
  Nat.rec (motive := fun _ => vl → Int32 → Nat → Int32 → Int32 → Option (Int32 × vl)) (fun _ _ _ _ _ => none) (fun _ i => Y_ji_getChars_22 N  i S) n
theorem sY_ji_getChars_22 (N : Nat)  (i22 : vl → Int32 → Nat → Int32 → Int32 → Option (Int32 × vl)) (S : shp)  (j22 : ∀ (v : vl) (p0 : Int32) (p2 : Nat) (p5 : Int32) (p6 : Int32), SimK B_ji_getChars 22 [some (.int p0), none, some (.ref p2), none, none, some (.int p5), some (.int p6)] [] S v (i22 v p0 p2 p5 p6) (ρpi S)) (v : vl) (p0 : Int32) (p2 : Nat) (p5 : Int32) (p6 : Int32) : SimK B_ji_getChars 22 [some (.int p0), none, some (.ref p2), none, none, some (.int p5), some (.int p6)] [] S v (Y_ji_getChars_22 N  i22 S v p0 p2 p5 p6) (ρpi S) := by
  unfold Y_ji_getChars_22
  refine sim_seg [(.iload_n 0, 0, 0, 0), (.bipush (-100), 0, 0, (-100))] [] (q := 25) (L' := [some (.int p0), none, some (.ref p2), none, none, some (.int p5), some (.int p6)]) (st' := [.int (J (-100)), .int p0]) (v1 := v) (by decide +kernel) rfl trivial ?_
  refine sim_gt (o := 47) (tg := 72) (f := 28) (by decide +kernel) rfl rfl (fun _ => ?_) (fun _ => ?_)
  · refine sim_seg [(.aload_n 2, 0, 0, 0), (.iinc 5 (-1), 0, 0, (-1))] [] (q := 76) (L' := [some (.int p0), none, some (.ref p2), none, none, some (.int (p5 + (J (-1)))), some (.int p6)]) (st' := [.ref p2]) (v1 := v) (by decide +kernel) rfl trivial ?_
    refine sim_seg [(.iload 5, 0, 0, 0)] [] (q := 78) (L' := [some (.int p0), none, some (.ref p2), none, none, some (.int (p5 + (J (-1)))), some (.int p6)]) (st' := [.int (p5 + (J (-1))), .ref p2]) (v1 := v) (by decide +kernel) rfl trivial ?_
    refine sim_gets (idx := 83) (m := 3) (pc3 := 81) (by decide) (by decide +kernel) (show Cond.fieldLink (owns (bO B_ji_getChars)) 83 "java/lang/Integer" "DigitOnes" "[B" ∈ tb2 from (List.mem_of_getElem? (i := 657) (by decide +kernel))) rfl ?_
    show SimK _ _ _ ([.ref (kad S 2), .int (p5 + (J (-1))), .ref p2]) _ _ _ _
    refine sim_grd fun h1 => ?_
    refine sim_grd fun h2 => ?_
    refine sim_grd fun h3 => ?_
    refine sim_grd fun h4 => ?_
    refine sim_seg [(.iload_n 0, 0, 0, 0), (.ineg, 0, 0, 0), (.baload, 0, 0, 0), (.bastore, 0, 0, 0), (.iload_n 0, 0, 0, 0), (.bipush (-9), 0, 0, (-9))] [] (q := 88) (L' := [some (.int p0), none, some (.ref p2), none, none, some (.int (p5 + (J (-1)))), some (.int p6)]) (st' := [.int (J (-9)), .int p0]) (v1 := (si v p2 (Int32.toNatClampNeg (p5 + (J (-1)))) (Int8.toInt32 (Int32.toInt8 (gi v (kad S 2) (Int32.toNatClampNeg (-p0))))))) (by decide +kernel) rfl ⟨⟨(Or.inr (kin_alen h1)), h2⟩, ⟨h3, h4⟩, trivial⟩ ?_
    refine sim_lt (x := (si v p2 (Int32.toNatClampNeg (p5 + (J (-1)))) (Int8.toInt32 (Int32.toInt8 (gi v (kad S 2) (Int32.toNatClampNeg (-p0))))))) ?_
    generalize (si v p2 (Int32.toNatClampNeg (p5 + (J (-1)))) (Int8.toInt32 (Int32.toInt8 (gi v (kad S 2) (Int32.toNatClampNeg (-p0)))))) = w5
    refine sim_ge (o := 16) (tg := 104) (f := 91) (by decide +kernel) rfl rfl (fun _ => ?_) (fun _ => ?_)
    · refine sim_seg [(.aload_n 2, 0, 0, 0), (.iinc 5 (-1), 0, 0, (-1))] [] (q := 95) (L' := [some (.int p0), none, some (.ref p2), none, none, some (.int ((p5 + (J (-1))) + (J (-1)))), some (.int p6)]) (st' := [.ref p2]) (v1 := w5) (by decide +kernel) rfl trivial ?_
      refine sim_seg [(.iload 5, 0, 0, 0)] [] (q := 97) (L' := [some (.int p0), none, some (.ref p2), none, none, some (.int ((p5 + (J (-1))) + (J (-1)))), some (.int p6)]) (st' := [.int ((p5 + (J (-1))) + (J (-1))), .ref p2]) (v1 := w5) (by decide +kernel) rfl trivial ?_
      refine sim_gets (idx := 87) (m := 2) (pc3 := 100) (by decide) (by decide +kernel) (show Cond.fieldLink (owns (bO B_ji_getChars)) 87 "java/lang/Integer" "DigitTens" "[B" ∈ tb2 from (List.mem_of_getElem? (i := 659) (by decide +kernel))) rfl ?_
      show SimK _ _ _ ([.ref (kad S 1), .int ((p5 + (J (-1))) + (J (-1))), .ref p2]) _ _ _ _
      refine sim_grd fun h6 => ?_
      refine sim_grd fun h7 => ?_
      refine sim_grd fun h8 => ?_
      refine sim_seg [(.iload_n 0, 0, 0, 0), (.ineg, 0, 0, 0), (.baload, 0, 0, 0), (.bastore, 0, 0, 0), (.iload 6, 0, 0, 0)] [] (q := 106) (L' := [some (.int p0), none, some (.ref p2), none, none, some (.int ((p5 + (J (-1))) + (J (-1)))), some (.int p6)]) (st' := [.int p6]) (v1 := (si w5 p2 (Int32.toNatClampNeg ((p5 + (J (-1))) + (J (-1)))) (Int8.toInt32 (Int32.toInt8 (gi w5 (kad S 1) (Int32.toNatClampNeg (-p0))))))) (by decide +kernel) rfl ⟨⟨(Or.inr (kin_alen h6)), h7⟩, ⟨h3, h8⟩, trivial⟩ ?_
      refine sim_lt (x := (si w5 p2 (Int32.toNatClampNeg ((p5 + (J (-1))) + (J (-1)))) (Int8.toInt32 (Int32.toInt8 (gi w5 (kad S 1) (Int32.toNatClampNeg (-p0))))))) ?_
      generalize (si w5 p2 (Int32.toNatClampNeg ((p5 + (J (-1))) + (J (-1)))) (Int8.toInt32 (Int32.toInt8 (gi w5 (kad S 1) (Int32.toNatClampNeg (-p0)))))) = w9
      refine sim_eq0 (o := 12) (tg := 118) (f := 109) (by decide +kernel) rfl rfl (fun _ => ?_) (fun _ => ?_)
      · refine sim_seg [(.iload 5, 0, 0, 0)] [] (q := 120) (L' := [some (.int p0), none, some (.ref p2), none, none, some (.int ((p5 + (J (-1))) + (J (-1)))), some (.int p6)]) (st' := [.int ((p5 + (J (-1))) + (J (-1)))]) (v1 := w9) (by decide +kernel) rfl trivial ?_
        exact sim_iret (by decide +kernel) rfl rfl rfl
      · refine sim_seg [(.aload_n 2, 0, 0, 0), (.iinc 5 (-1), 0, 0, (-1))] [] (q := 113) (L' := [some (.int p0), none, some (.ref p2), none, none, some (.int (((p5 + (J (-1))) + (J (-1))) + (J (-1)))), some (.int p6)]) (st' := [.ref p2]) (v1 := w9) (by decide +kernel) rfl trivial ?_
        refine sim_nm (((p5 + (J (-1))) + (J (-1))) + (J (-1))) (fun x10 => [some (.int p0), none, some (.ref p2), none, none, some (.int x10), some (.int p6)]) (fun x10 => [.ref p2]) (fun x10 => ?_) rfl rfl
        refine sim_grd fun h11 => ?_
        refine sim_seg [(.iload 5, 0, 0, 0), (.bipush 45, 0, 0, 45), (.bastore, 0, 0, 0), (.iload 5, 0, 0, 0)] [] (q := 120) (L' := [some (.int p0), none, some (.ref p2), none, none, some (.int x10), some (.int p6)]) (st' := [.int x10]) (v1 := (si w9 p2 (Int32.toNatClampNeg x10) (Int8.toInt32 (Int32.toInt8 (J 45))))) (by decide +kernel) rfl ⟨⟨h3, h11⟩, trivial⟩ ?_
        refine sim_lt (x := (si w9 p2 (Int32.toNatClampNeg x10) (Int8.toInt32 (Int32.toInt8 (J 45))))) ?_
        generalize (si w9 p2 (Int32.toNatClampNeg x10) (Int8.toInt32 (Int32.toInt8 (J 45)))) = w12
        exact sim_iret (by decide +kernel) rfl rfl rfl
    · refine sim_seg [(.iload 6, 0, 0, 0)] [] (q := 106) (L' := [some (.int p0), none, some (.ref p2), none, none, some (.int (p5 + (J (-1)))), some (.int p6)]) (st' := [.int p6]) (v1 := w5) (by decide +kernel) rfl trivial ?_
      refine sim_eq0 (o := 12) (tg := 118) (f := 109) (by decide +kernel) rfl rfl (fun _ => ?_) (fun _ => ?_)
      · refine sim_seg [(.iload 5, 0, 0, 0)] [] (q := 120) (L' := [some (.int p0), none, some (.ref p2), none, none, some (.int (p5 + (J (-1)))), some (.int p6)]) (st' := [.int (p5 + (J (-1)))]) (v1 := w5) (by decide +kernel) rfl trivial ?_
        exact sim_iret (by decide +kernel) rfl rfl rfl
      · refine sim_seg [(.aload_n 2, 0, 0, 0), (.iinc 5 (-1), 0, 0, (-1))] [] (q := 113) (L' := [some (.int p0), none, some (.ref p2), none, none, some (.int ((p5 + (J (-1))) + (J (-1)))), some (.int p6)]) (st' := [.ref p2]) (v1 := w5) (by decide +kernel) rfl trivial ?_
        refine sim_grd fun h13 => ?_
        refine sim_seg [(.iload 5, 0, 0, 0), (.bipush 45, 0, 0, 45), (.bastore, 0, 0, 0), (.iload 5, 0, 0, 0)] [] (q := 120) (L' := [some (.int p0), none, some (.ref p2), none, none, some (.int ((p5 + (J (-1))) + (J (-1)))), some (.int p6)]) (st' := [.int ((p5 + (J (-1))) + (J (-1)))]) (v1 := (si w5 p2 (Int32.toNatClampNeg ((p5 + (J (-1))) + (J (-1)))) (Int8.toInt32 (Int32.toInt8 (J 45))))) (by decide +kernel) rfl ⟨⟨h3, h13⟩, trivial⟩ ?_
        refine sim_lt (x := (si w5 p2 (Int32.toNatClampNeg ((p5 + (J (-1))) + (J (-1)))) (Int8.toInt32 (Int32.toInt8 (J 45))))) ?_
        generalize (si w5 p2 (Int32.toNatClampNeg ((p5 + (J (-1))) + (J (-1)))) (Int8.toInt32 (Int32.toInt8 (J 45)))) = w14
        exact sim_iret (by decide +kernel) rfl rfl rfl
  · refine sim_seg [(.iload_n 0, 0, 0, 0), (.bipush 100, 0, 0, 100), (.idiv, 0, 0, 0), (.istore_n 3, 0, 0, 0)] [] (q := 33) (L' := [some (.int p0), none, some (.ref p2), some (.int (p0 / (J 100))), none, some (.int p5), some (.int p6)]) (st' := []) (v1 := v) (by decide +kernel) rfl ⟨(by decide), trivial⟩ ?_
    refine sim_seg [(.iload_n 3, 0, 0, 0), (.bipush 100, 0, 0, 100), (.imul, 0, 0, 0), (.iload_n 0, 0, 0, 0), (.isub, 0, 0, 0), (.istore 4, 0, 0, 0)] [] (q := 41) (L' := [some (.int p0), none, some (.ref p2), some (.int (p0 / (J 100))), some (.int (((p0 / (J 100)) * (J 100)) - p0)), some (.int p5), some (.int p6)]) (st' := []) (v1 := v) (by decide +kernel) rfl trivial ?_
    refine sim_nm (((p0 / (J 100)) * (J 100)) - p0) (fun x15 => [some (.int p0), none, some (.ref p2), some (.int (p0 / (J 100))), some (.int x15), some (.int p5), some (.int p6)]) (fun x15 => []) (fun x15 => ?_) rfl rfl
    refine sim_seg [(.iload_n 3, 0, 0, 0), (.istore_n 0, 0, 0, 0)] [] (q := 43) (L' := [some (.int (p0 / (J 100))), none, some (.ref p2), some (.int (p0 / (J 100))), some (.int x15), some (.int p5), some (.int p6)]) (st' := []) (v1 := v) (by decide +kernel) rfl trivial ?_
    refine sim_seg [(.aload_n 2, 0, 0, 0), (.iinc 5 (-1), 0, 0, (-1))] [] (q := 47) (L' := [some (.int (p0 / (J 100))), none, some (.ref p2), some (.int (p0 / (J 100))), some (.int x15), some (.int (p5 + (J (-1)))), some (.int p6)]) (st' := [.ref p2]) (v1 := v) (by decide +kernel) rfl trivial ?_
    refine sim_seg [(.iload 5, 0, 0, 0)] [] (q := 49) (L' := [some (.int (p0 / (J 100))), none, some (.ref p2), some (.int (p0 / (J 100))), some (.int x15), some (.int (p5 + (J (-1)))), some (.int p6)]) (st' := [.int (p5 + (J (-1))), .ref p2]) (v1 := v) (by decide +kernel) rfl trivial ?_
    refine sim_gets (idx := 83) (m := 3) (pc3 := 52) (by decide) (by decide +kernel) (show Cond.fieldLink (owns (bO B_ji_getChars)) 83 "java/lang/Integer" "DigitOnes" "[B" ∈ tb2 from (List.mem_of_getElem? (i := 657) (by decide +kernel))) rfl ?_
    show SimK _ _ _ ([.ref (kad S 2), .int (p5 + (J (-1))), .ref p2]) _ _ _ _
    refine sim_grd fun h16 => ?_
    refine sim_grd fun h17 => ?_
    refine sim_grd fun h18 => ?_
    refine sim_grd fun h19 => ?_
    refine sim_seg [(.iload 4, 0, 0, 0), (.baload, 0, 0, 0), (.bastore, 0, 0, 0), (.aload_n 2, 0, 0, 0), (.iinc 5 (-1), 0, 0, (-1))] [] (q := 60) (L' := [some (.int (p0 / (J 100))), none, some (.ref p2), some (.int (p0 / (J 100))), some (.int x15), some (.int ((p5 + (J (-1))) + (J (-1)))), some (.int p6)]) (st' := [.ref p2]) (v1 := (si v p2 (Int32.toNatClampNeg (p5 + (J (-1)))) (Int8.toInt32 (Int32.toInt8 (gi v (kad S 2) (Int32.toNatClampNeg x15)))))) (by decide +kernel) rfl ⟨⟨(Or.inr (kin_alen h16)), h17⟩, ⟨h18, h19⟩, trivial⟩ ?_
    refine sim_lt (x := (si v p2 (Int32.toNatClampNeg (p5 + (J (-1)))) (Int8.toInt32 (Int32.toInt8 (gi v (kad S 2) (Int32.toNatClampNeg x15)))))) ?_
    generalize (si v p2 (Int32.toNatClampNeg (p5 + (J (-1)))) (Int8.toInt32 (Int32.toInt8 (gi v (kad S 2) (Int32.toNatClampNeg x15))))) = w20
    refine sim_seg [(.iload 5, 0, 0, 0)] [] (q := 62) (L' := [some (.int (p0 / (J 100))), none, some (.ref p2), some (.int (p0 / (J 100))), some (.int x15), some (.int ((p5 + (J (-1))) + (J (-1)))), some (.int p6)]) (st' := [.int ((p5 + (J (-1))) + (J (-1))), .ref p2]) (v1 := w20) (by decide +kernel) rfl trivial ?_
    refine sim_gets (idx := 87) (m := 2) (pc3 := 65) (by decide) (by decide +kernel) (show Cond.fieldLink (owns (bO B_ji_getChars)) 87 "java/lang/Integer" "DigitTens" "[B" ∈ tb2 from (List.mem_of_getElem? (i := 659) (by decide +kernel))) rfl ?_
    show SimK _ _ _ ([.ref (kad S 1), .int ((p5 + (J (-1))) + (J (-1))), .ref p2]) _ _ _ _
    refine sim_grd fun h21 => ?_
    refine sim_grd fun h22 => ?_
    refine sim_grd fun h23 => ?_
    refine sim_seg [(.iload 4, 0, 0, 0), (.baload, 0, 0, 0), (.bastore, 0, 0, 0), (.goto (-47), 0, 0, 0)] [] (q := 22) (L' := [some (.int (p0 / (J 100))), none, some (.ref p2), some (.int (p0 / (J 100))), some (.int x15), some (.int ((p5 + (J (-1))) + (J (-1)))), some (.int p6)]) (st' := []) (v1 := (si w20 p2 (Int32.toNatClampNeg ((p5 + (J (-1))) + (J (-1)))) (Int8.toInt32 (Int32.toInt8 (gi w20 (kad S 1) (Int32.toNatClampNeg x15)))))) (by decide +kernel) rfl ⟨⟨(Or.inr (kin_alen h21)), h22⟩, ⟨h18, h23⟩, trivial⟩ ?_
    refine sim_lt (x := (si w20 p2 (Int32.toNatClampNeg ((p5 + (J (-1))) + (J (-1)))) (Int8.toInt32 (Int32.toInt8 (gi w20 (kad S 1) (Int32.toNatClampNeg x15)))))) ?_
    generalize (si w20 p2 (Int32.toNatClampNeg ((p5 + (J (-1))) + (J (-1)))) (Int8.toInt32 (Int32.toInt8 (gi w20 (kad S 1) (Int32.toNatClampNeg x15))))) = w24
    exact sim_wk (L0 := [some (.int (p0 / (J 100))), none, some (.ref p2), none, none, some (.int ((p5 + (J (-1))) + (J (-1)))), some (.int p6)]) ⟨rfl, rfl, rfl, rfl, trivial⟩ (j22 w24 (p0 / (J 100)) p2 ((p5 + (J (-1))) + (J (-1))) p6)
theorem sR_ji_getChars_22 (N : Nat)  (S : shp)  (n : Nat) : ∀ (v : vl) (p0 : Int32) (p2 : Nat) (p5 : Int32) (p6 : Int32), SimK B_ji_getChars 22 [some (.int p0), none, some (.ref p2), none, none, some (.int p5), some (.int p6)] [] S v (K_ji_getChars_22 N  n S v p0 p2 p5 p6) (ρpi S) := by
  induction n with
  | zero => intro v p0 p2 p5 p6; exact sim_none
  | succ k ih => intro v p0 p2 p5 p6; exact sY_ji_getChars_22 N   _ S  ih v p0 p2 p5 p6
theorem sK_ji_getChars_22 (N : Nat)  (n : Nat) (S : shp) (v : vl) (p0 : Int32) (p2 : Nat) (p5 : Int32) (p6 : Int32) : SimK B_ji_getChars 22 [some (.int p0), none, some (.ref p2), none, none, some (.int p5), some (.int p6)] [] S v (K_ji_getChars_22 N  n S v p0 p2 p5 p6) (ρpi S) := sR_ji_getChars_22 N   S  n  v p0 p2 p5 p6
noncomputable def F_ji_getChars (N : Nat) (b0 : Int32) (b1 : Int32) (a2 : Nat) (S : shp) (v : vl) : Option (Int32 × vl) :=
  (if b0 < (J 0) then K_ji_getChars_22 N  N S v b0 a2 b1 (J 1) else K_ji_getChars_22 N  N S v (-b0) a2 b1 (J 0))
theorem ok_ji_getChars (N : Nat) (b0 : Int32) (b1 : Int32) (a2 : Nat) (S : shp) (v : vl) : SimK B_ji_getChars 0 (entB (bN B_ji_getChars) [.int b0, .int b1, .ref a2]) [] S v (F_ji_getChars N b0 b1 a2 S v) (ρpi S) := by
  show SimK B_ji_getChars 0 [some (.int b0), some (.int b1), some (.ref a2), none, none, none, none] [] S v (F_ji_getChars N b0 b1 a2 S v) _
  unfold F_ji_getChars
  refine sim_seg [(.iload_n 1, 0, 0, 0), (.istore 5, 0, 0, 0)] [] (q := 3) (L' := [some (.int b0), some (.int b1), some (.ref a2), none, none, some (.int b1), none]) (st' := []) (v1 := v) (by decide +kernel) rfl trivial ?_
  refine sim_seg [(.iload_n 0, 0, 0, 0)] [] (q := 4) (L' := [some (.int b0), some (.int b1), some (.ref a2), none, none, some (.int b1), none]) (st' := [.int b0]) (v1 := v) (by decide +kernel) rfl trivial ?_
  refine sim_ge0 (o := 7) (tg := 11) (f := 7) (by decide +kernel) rfl rfl (fun _ => ?_) (fun _ => ?_)
  · refine sim_seg [(.iconst 1, 0, 0, 1), (.goto 4, 0, 0, 0), (.istore 6, 0, 0, 0)] [] (q := 14) (L' := [some (.int b0), some (.int b1), some (.ref a2), none, none, some (.int b1), some (.int (J 1))]) (st' := []) (v1 := v) (by decide +kernel) rfl trivial ?_
    refine sim_seg [(.iload 6, 0, 0, 0)] [] (q := 16) (L' := [some (.int b0), some (.int b1), some (.ref a2), none, none, some (.int b1), some (.int (J 1))]) (st' := [.int (J 1)]) (v1 := v) (by decide +kernel) rfl trivial ?_
    refine sim_ifF (c := (J 1) = (J 0)) (by decide) (sim_ne0 (o := 6) (tg := 22) (f := 19) (by decide +kernel) rfl rfl (fun _ => sim_none) (fun _ => ?_))
    exact sim_wk (L0 := [some (.int b0), none, some (.ref a2), none, none, some (.int b1), some (.int (J 1))]) ⟨rfl, rfl, rfl, rfl, trivial⟩ (sK_ji_getChars_22 N N S v b0 a2 b1 (J 1))
  · refine sim_seg [(.iconst 0, 0, 0, 0), (.istore 6, 0, 0, 0)] [] (q := 14) (L' := [some (.int b0), some (.int b1), some (.ref a2), none, none, some (.int b1), some (.int (J 0))]) (st' := []) (v1 := v) (by decide +kernel) rfl trivial ?_
    refine sim_seg [(.iload 6, 0, 0, 0)] [] (q := 16) (L' := [some (.int b0), some (.int b1), some (.ref a2), none, none, some (.int b1), some (.int (J 0))]) (st' := [.int (J 0)]) (v1 := v) (by decide +kernel) rfl trivial ?_
    refine sim_ifT (c := (J 0) = (J 0)) (by decide) (sim_ne0 (o := 6) (tg := 22) (f := 19) (by decide +kernel) rfl rfl (fun _ => ?_) (fun _ => sim_none))
    refine sim_seg [(.iload_n 0, 0, 0, 0), (.ineg, 0, 0, 0), (.istore_n 0, 0, 0, 0)] [] (q := 22) (L' := [some (.int (-b0)), some (.int b1), some (.ref a2), none, none, some (.int b1), some (.int (J 0))]) (st' := []) (v1 := v) (by decide +kernel) rfl trivial ?_
    exact sim_wk (L0 := [some (.int (-b0)), none, some (.ref a2), none, none, some (.int b1), some (.int (J 0))]) ⟨rfl, rfl, rfl, rfl, trivial⟩ (sK_ji_getChars_22 N N S v (-b0) a2 b1 (J 0))
def B_ji_stringSize : bd := (⟨"java/lang/Integer", "stringSize", "(I)I"⟩, prog_15_method_13_code, 4, (some .int), [], 14, 0)
theorem m_ji_stringSize : mS B_ji_stringSize 1 := ⟨⟨⟨by decide +kernel, Or.inl rfl⟩, rfl, (List.mem_of_getElem? (i := 653) (by decide +kernel)), by decide +kernel, (List.mem_of_getElem? (i := 56) (by decide +kernel)), ⟨by decide, by decide⟩, by decide⟩, rfl, (by unfold nar; decide +kernel), (List.mem_of_getElem? (i := 652) (by decide +kernel))⟩
noncomputable def Y_ji_stringSize_16 (N : Nat)  (i16 : Int32 → Int32 → Int32 → Int32 → Option Int32) (S : shp) (v : vl)  (p0 : Int32) (p1 : Int32) (p2 : Int32) (p3 : Int32) : Option Int32 :=
  (if p3 < (J 10) then (if p2 < p0 then some ((p3 + p1)) else i16 p0 p1 ((J 10) * p2) (p3 + (J 1))) else some (((J 10) + p1)))
noncomputable def K_ji_stringSize_16 (N : Nat)  (n : Nat) (S : shp) (v : vl) : Int32 → Int32 → Int32 → Int32 → Option Int32 :=
  Nat.rec (motive := fun _ => Int32 → Int32 → Int32 → Int32 → Option Int32) (fun _ _ _ _ => none) (fun _ i => Y_ji_stringSize_16 N  i S v) n
theorem sY_ji_stringSize_16 (N : Nat)  (i16 : Int32 → Int32 → Int32 → Int32 → Option Int32) (S : shp) (v : vl)  (j16 : ∀ (p0 : Int32) (p1 : Int32) (p2 : Int32) (p3 : Int32), SimK B_ji_stringSize 16 [some (.int p0), some (.int p1), some (.int p2), some (.int p3)] [] S v (i16 p0 p1 p2 p3) (ρri S v))  (p0 : Int32) (p1 : Int32) (p2 : Int32) (p3 : Int32) : SimK B_ji_stringSize 16 [some (.int p0), some (.int p1), some (.int p2), some (.int p3)] [] S v (Y_ji_stringSize_16 N  i16 S v  p0 p1 p2 p3) (ρri S v) := by
  unfold Y_ji_stringSize_16
  refine sim_seg [(.iload_n 3, 0, 0, 0), (.bipush 10, 0, 0, 10)] [] (q := 19) (L' := [some (.int p0), some (.int p1), some (.int p2), some (.int p3)]) (st' := [.int (J 10), .int p3]) (v1 := v) (by decide +kernel) rfl trivial ?_
  refine sim_ge (o := 23) (tg := 42) (f := 22) (by decide +kernel) rfl rfl (fun _ => ?_) (fun _ => ?_)
  · refine sim_seg [(.iload_n 0, 0, 0, 0), (.iload_n 2, 0, 0, 0)] [] (q := 24) (L' := [some (.int p0), some (.int p1), some (.int p2), some (.int p3)]) (st' := [.int p2, .int p0]) (v1 := v) (by decide +kernel) rfl trivial ?_
    refine sim_le (o := 7) (tg := 31) (f := 27) (by decide +kernel) rfl rfl (fun _ => ?_) (fun _ => ?_)
    · refine sim_seg [(.iload_n 3, 0, 0, 0), (.iload_n 1, 0, 0, 0), (.iadd, 0, 0, 0)] [] (q := 30) (L' := [some (.int p0), some (.int p1), some (.int p2), some (.int p3)]) (st' := [.int (p3 + p1)]) (v1 := v) (by decide +kernel) rfl trivial ?_
      exact sim_iret (by decide +kernel) rfl rfl rfl
    · refine sim_seg [(.bipush 10, 0, 0, 10), (.iload_n 2, 0, 0, 0), (.imul, 0, 0, 0), (.istore_n 2, 0, 0, 0)] [] (q := 36) (L' := [some (.int p0), some (.int p1), some (.int ((J 10) * p2)), some (.int p3)]) (st' := []) (v1 := v) (by decide +kernel) rfl trivial ?_
      refine sim_seg [(.iinc 3 1, 0, 0, 1)] [] (q := 39) (L' := [some (.int p0), some (.int p1), some (.int ((J 10) * p2)), some (.int (p3 + (J 1)))]) (st' := []) (v1 := v) (by decide +kernel) rfl trivial ?_
      refine sim_seg [(.goto (-23), 0, 0, 0)] [] (q := 16) (L' := [some (.int p0), some (.int p1), some (.int ((J 10) * p2)), some (.int (p3 + (J 1)))]) (st' := []) (v1 := v) (by decide +kernel) rfl trivial ?_
      exact j16 p0 p1 ((J 10) * p2) (p3 + (J 1))
  · refine sim_seg [(.bipush 10, 0, 0, 10), (.iload_n 1, 0, 0, 0), (.iadd, 0, 0, 0)] [] (q := 46) (L' := [some (.int p0), some (.int p1), some (.int p2), some (.int p3)]) (st' := [.int ((J 10) + p1)]) (v1 := v) (by decide +kernel) rfl trivial ?_
    exact sim_iret (by decide +kernel) rfl rfl rfl
theorem sR_ji_stringSize_16 (N : Nat)  (S : shp) (v : vl)  (n : Nat) : ∀  (p0 : Int32) (p1 : Int32) (p2 : Int32) (p3 : Int32), SimK B_ji_stringSize 16 [some (.int p0), some (.int p1), some (.int p2), some (.int p3)] [] S v (K_ji_stringSize_16 N  n S v  p0 p1 p2 p3) (ρri S v) := by
  induction n with
  | zero => intro p0 p1 p2 p3; exact sim_none
  | succ k ih => intro p0 p1 p2 p3; exact sY_ji_stringSize_16 N   _ S v  ih p0 p1 p2 p3
theorem sK_ji_stringSize_16 (N : Nat)  (n : Nat) (S : shp) (v : vl) (p0 : Int32) (p1 : Int32) (p2 : Int32) (p3 : Int32) : SimK B_ji_stringSize 16 [some (.int p0), some (.int p1), some (.int p2), some (.int p3)] [] S v (K_ji_stringSize_16 N  n S v  p0 p1 p2 p3) (ρri S v) := sR_ji_stringSize_16 N   S v  n  p0 p1 p2 p3
noncomputable def F_ji_stringSize (N : Nat) (b0 : Int32) (S : shp) (v : vl) : Option Int32 :=
  (if b0 < (J 0) then K_ji_stringSize_16 N  N S v b0 (J 1) (J (-10)) (J 1) else K_ji_stringSize_16 N  N S v (-b0) (J 0) (J (-10)) (J 1))
theorem ok_ji_stringSize (N : Nat) (b0 : Int32) (S : shp) (v : vl) : SimK B_ji_stringSize 0 (entB (bN B_ji_stringSize) [.int b0]) [] S v (F_ji_stringSize N b0 S v) (ρri S v) := by
  show SimK B_ji_stringSize 0 [some (.int b0), none, none, none] [] S v (F_ji_stringSize N b0 S v) _
  unfold F_ji_stringSize
  refine sim_seg [(.iconst 1, 0, 0, 1), (.istore_n 1, 0, 0, 0)] [] (q := 2) (L' := [some (.int b0), some (.int (J 1)), none, none]) (st' := []) (v1 := v) (by decide +kernel) rfl trivial ?_
  refine sim_seg [(.iload_n 0, 0, 0, 0)] [] (q := 3) (L' := [some (.int b0), some (.int (J 1)), none, none]) (st' := [.int b0]) (v1 := v) (by decide +kernel) rfl trivial ?_
  refine sim_lt0 (o := 8) (tg := 11) (f := 6) (by decide +kernel) rfl rfl (fun _ => ?_) (fun _ => ?_)
  · refine sim_seg [(.bipush (-10), 0, 0, (-10)), (.istore_n 2, 0, 0, 0)] [] (q := 14) (L' := [some (.int b0), some (.int (J 1)), some (.int (J (-10))), none]) (st' := []) (v1 := v) (by decide +kernel) rfl trivial ?_
    refine sim_seg [(.iconst 1, 0, 0, 1), (.istore_n 3, 0, 0, 0)] [] (q := 16) (L' := [some (.int b0), some (.int (J 1)), some (.int (J (-10))), some (.int (J 1))]) (st' := []) (v1 := v) (by decide +kernel) rfl trivial ?_
    exact sK_ji_stringSize_16 N N S v b0 (J 1) (J (-10)) (J 1)
  · refine sim_seg [(.iconst 0, 0, 0, 0), (.istore_n 1, 0, 0, 0)] [] (q := 8) (L' := [some (.int b0), some (.int (J 0)), none, none]) (st' := []) (v1 := v) (by decide +kernel) rfl trivial ?_
    refine sim_seg [(.iload_n 0, 0, 0, 0), (.ineg, 0, 0, 0), (.istore_n 0, 0, 0, 0)] [] (q := 11) (L' := [some (.int (-b0)), some (.int (J 0)), none, none]) (st' := []) (v1 := v) (by decide +kernel) rfl trivial ?_
    refine sim_seg [(.bipush (-10), 0, 0, (-10)), (.istore_n 2, 0, 0, 0)] [] (q := 14) (L' := [some (.int (-b0)), some (.int (J 0)), some (.int (J (-10))), none]) (st' := []) (v1 := v) (by decide +kernel) rfl trivial ?_
    refine sim_seg [(.iconst 1, 0, 0, 1), (.istore_n 3, 0, 0, 0)] [] (q := 16) (L' := [some (.int (-b0)), some (.int (J 0)), some (.int (J (-10))), some (.int (J 1))]) (st' := []) (v1 := v) (by decide +kernel) rfl trivial ?_
    exact sK_ji_stringSize_16 N N S v (-b0) (J 0) (J (-10)) (J 1)
def B_ab_append2 : bd := (⟨"java/lang/AbstractStringBuilder", "append", "(I)Ljava/lang/AbstractStringBuilder;"⟩, prog_9_method_32_code, 4, (some (.object "java/lang/AbstractStringBuilder")), [], 8, 4)
theorem m_ab_append2P : mP B_ab_append2 1 := ⟨⟨⟨by decide +kernel, Or.inl rfl⟩, rfl, (List.mem_of_getElem? (i := 650) (by decide +kernel)), by decide +kernel, (List.mem_of_getElem? (i := 45) (by decide +kernel)), ⟨by decide, by decide⟩, by decide⟩, rfl, (by unfold nar; decide +kernel), (List.mem_of_getElem? (i := 649) (by decide +kernel)), (List.mem_of_getElem? (i := 1223) (by decide +kernel)), (List.mem_of_getElem? (i := 314) (by decide +kernel)), by decide⟩
noncomputable def F_ab_append2 (N : Nat) (a0 : Nat) (b1 : Int32) (S : shp) (v : vl) : Option ((Option Nat) × shp × vl) :=
  grd (kin S a0 = some (0, 7)) <| (F_ji_stringSize N b1 S v).bind fun x2 => (F_ab_ensureCapacityInternal a0 ((gi v a0 3) + x2) S v).bind fun (S3, w4) => (F_ab_isLatin1 a0 S3 w4).bind fun x6 => (if x6 = (J 0) then none else (gr S3 a0 0).bind fun r7 => (F_ji_getChars N b1 ((gi v a0 3) + x2) r7 S3 w4).bind fun (x9, w10) => lt (si w10 a0 3 ((gi v a0 3) + x2)) fun w11 => some (((some a0), S3, w11)))
theorem ok_ab_append2 (N : Nat) (a0 : Nat) (b1 : Int32) (S : shp) (v : vl) : SimK B_ab_append2 0 (entB (bN B_ab_append2) [.ref a0, .int b1]) [] S v (F_ab_append2 N a0 b1 S v) (ρgq) := by
  show SimK B_ab_append2 0 [some (.ref a0), some (.int b1), none, none] [] S v (F_ab_append2 N a0 b1 S v) _
  unfold F_ab_append2
  refine sim_grd fun h1 => ?_
  refine sim_seg [(.aload_n 0, 0, 0, 0), (.getfield 79, 7, 3, 0), (.istore_n 2, 0, 0, 0)] [] (q := 5) (L' := [some (.ref a0), some (.int b1), some (.int (gi v a0 3)), none]) (st' := []) (v1 := v) (by decide +kernel) rfl ⟨h1, trivial⟩ ?_
  refine sim_seg [(.iload_n 2, 0, 0, 0), (.iload_n 1, 0, 0, 0)] [] (q := 7) (L' := [some (.ref a0), some (.int b1), some (.int (gi v a0 3)), none]) (st' := [.int b1, .int (gi v a0 3)]) (v1 := v) (by decide +kernel) rfl trivial ?_
  refine sc_ri (pc3 := 10) (cf_S (idx := 245) [.int b1] m_ji_stringSize ⟨by decide, by decide⟩ (List.mem_of_getElem? (i := 651) (by decide +kernel)) rfl (Nat.le_of_ble_eq_true rfl) (by decide +kernel) (Nat.le_of_ble_eq_true rfl) rfl) (ok_ji_stringSize N b1 S v) rfl (fun x2 => ?_)
  refine sim_seg [(.iadd, 0, 0, 0), (.istore_n 3, 0, 0, 0)] [] (q := 12) (L' := [some (.ref a0), some (.int b1), some (.int (gi v a0 3)), some (.int ((gi v a0 3) + x2))]) (st' := []) (v1 := v) (by decide +kernel) rfl trivial ?_
  refine sim_seg [(.aload_n 0, 0, 0, 0), (.iload_n 3, 0, 0, 0)] [] (q := 14) (L' := [some (.ref a0), some (.int b1), some (.int (gi v a0 3)), some (.int ((gi v a0 3) + x2))]) (st' := [.int ((gi v a0 3) + x2), .ref a0]) (v1 := v) (by decide +kernel) rfl trivial ?_
  refine sc_gv (pc3 := 17) (cf_U (idx := 100) [.int ((gi v a0 3) + x2)] m_ab_ensureCapacityInternal ⟨by decide, by decide⟩ (List.mem_of_getElem? (i := 556) (by decide +kernel)) rfl (Nat.le_of_ble_eq_true rfl) h1 (by decide +kernel) (Nat.le_of_ble_eq_true rfl) rfl) (ok_ab_ensureCapacityInternal a0 ((gi v a0 3) + x2) S v) rfl (fun S3 w4 h5 => ?_)
  refine sim_seg [(.aload_n 0, 0, 0, 0)] [] (q := 18) (L' := [some (.ref a0), some (.int b1), some (.int (gi v a0 3)), some (.int ((gi v a0 3) + x2))]) (st' := [.ref a0]) (v1 := w4) (by decide +kernel) rfl trivial ?_
  refine sc_ri (pc3 := 21) (cf_U (idx := 83) [] m_ab_isLatin1 ⟨by decide, by decide⟩ (List.mem_of_getElem? (i := 589) (by decide +kernel)) rfl (Nat.le_of_ble_eq_true rfl) (h5.2.2.2.2 _ _ h1) (by decide +kernel) (Nat.le_of_ble_eq_true rfl) rfl) (ok_ab_isLatin1 a0 S3 w4) rfl (fun x6 => ?_)
  refine sim_eq0 (o := 16) (tg := 37) (f := 24) (by decide +kernel) rfl rfl (fun _ => ?_) (fun _ => ?_)
  · exact sim_none
  · refine sim_bind fun r7 h8 => ?_
    refine sim_seg [(.iload_n 1, 0, 0, 0), (.iload_n 3, 0, 0, 0), (.aload_n 0, 0, 0, 0), (.getfield 15, 7, 0, 0)] [r7] (q := 30) (L' := [some (.ref a0), some (.int b1), some (.int (gi v a0 3)), some (.int ((gi v a0 3) + x2))]) (st' := [.ref r7, .int ((gi v a0 3) + x2), .int b1]) (v1 := w4) (by decide +kernel) rfl ⟨⟨(h5.2.2.2.2 _ _ h1), h8⟩, trivial⟩ ?_
    refine sc_pi (pc3 := 33) (cf_S (idx := 248) [.int b1, .int ((gi v a0 3) + x2), .ref r7] m_ji_getChars ⟨by decide, by decide⟩ (List.mem_of_getElem? (i := 654) (by decide +kernel)) rfl (Nat.le_of_ble_eq_true rfl) (by decide +kernel) (Nat.le_of_ble_eq_true rfl) rfl) (ok_ji_getChars N b1 ((gi v a0 3) + x2) r7 S3 w4) rfl (fun x9 w10 => ?_)
    refine sim_seg [(.pop, 0, 0, 0), (.goto 14, 0, 0, 0), (.aload_n 0, 0, 0, 0), (.iload_n 3, 0, 0, 0), (.putfield 79, 7, 3, 0), (.aload_n 0, 0, 0, 0)] [] (q := 54) (L' := [some (.ref a0), some (.int b1), some (.int (gi v a0 3)), some (.int ((gi v a0 3) + x2))]) (st' := [.ref a0]) (v1 := (si w10 a0 3 ((gi v a0 3) + x2))) (by decide +kernel) rfl ⟨(h5.2.2.2.2 _ _ h1), trivial⟩ ?_
    refine sim_lt (x := (si w10 a0 3 ((gi v a0 3) + x2))) ?_
    generalize (si w10 a0 3 ((gi v a0 3) + x2)) = w11
    exact sim_aretS (by decide +kernel) rfl (Or.inl ⟨_, rfl⟩) rfl
def B_sb_append2 : bd := (⟨"java/lang/StringBuilder", "append", "(I)Ljava/lang/StringBuilder;"⟩, prog_20_method_15_code, 2, (some (.object "java/lang/StringBuilder")), [], 7, 5)
theorem m_sb_append2 : mV B_sb_append2 7 1 := ⟨⟨⟨by decide +kernel, Or.inl rfl⟩, rfl, (List.mem_of_getElem? (i := 647) (by decide +kernel)), by decide +kernel, (List.mem_of_getElem? (i := 46) (by decide +kernel)), ⟨by decide, by decide⟩, by decide⟩, rfl, (by unfold nar; decide +kernel), (List.mem_of_getElem? (i := 645) (by decide +kernel)), rfl, (List.mem_of_getElem? (i := 646) (by decide +kernel))⟩
noncomputable def F_sb_append2 (N : Nat) (a0 : Nat) (b1 : Int32) (S : shp) (v : vl) : Option ((Option Nat) × shp × vl) :=
  grd (kin S a0 = some (0, 7)) <| (F_ab_append2 N a0 b1 S v).bind fun (q2, S3, w4) => oc2 q2 none fun r6 => some (((some a0), S3, w4))
theorem ok_sb_append2 (N : Nat) (a0 : Nat) (b1 : Int32) (S : shp) (v : vl) : SimK B_sb_append2 0 (entB (bN B_sb_append2) [.ref a0, .int b1]) [] S v (F_sb_append2 N a0 b1 S v) (ρgq) := by
  show SimK B_sb_append2 0 [some (.ref a0), some (.int b1)] [] S v (F_sb_append2 N a0 b1 S v) _
  unfold F_sb_append2
  refine sim_seg [(.aload_n 0, 0, 0, 0), (.iload_n 1, 0, 0, 0)] [] (q := 2) (L' := [some (.ref a0), some (.int b1)]) (st' := [.int b1, .ref a0]) (v1 := v) (by decide +kernel) rfl trivial ?_
  refine sim_grd fun h1 => ?_
  refine sc_gq (pc3 := 5) (cf_P (idx := 53) [.int b1] m_ab_append2P ⟨by decide, by decide⟩ rfl (List.mem_of_getElem? (i := 648) (by decide +kernel)) rfl (Nat.le_of_ble_eq_true rfl) h1 (by decide +kernel) (Nat.le_of_ble_eq_true rfl) rfl) (ok_ab_append2 N a0 b1 S v) rfl (fun q2 S3 w4 h5 => ?_)
  refine sim_oc2 (fun _ => sim_none) (fun r6 _ => ?_)
  refine sim_seg [(.pop, 0, 0, 0), (.aload_n 0, 0, 0, 0)] [] (q := 7) (L' := [some (.ref a0), some (.int b1)]) (st' := [.ref a0]) (v1 := w4) (by decide +kernel) rfl trivial ?_
  exact sim_aretS (by decide +kernel) rfl (Or.inl ⟨_, rfl⟩) rfl
def B_ab_inflateIfNeededFor : bd := (⟨"java/lang/AbstractStringBuilder", "inflateIfNeededFor", "(Ljava/lang/String;)V"⟩, prog_9_method_71_code, 2, none, [], 8, 1)
theorem m_ab_inflateIfNeededFor : mU B_ab_inflateIfNeededFor 1 := ⟨⟨⟨by decide +kernel, Or.inl rfl⟩, rfl, (List.mem_of_getElem? (i := 617) (by decide +kernel)), by decide +kernel, (List.mem_of_getElem? (i := 45) (by decide +kernel)), ⟨by decide, by decide⟩, by decide⟩, rfl, (by unfold nar; decide +kernel), (List.mem_of_getElem? (i := 616) (by decide +kernel)), (List.mem_of_getElem? (i := 3) (by decide +kernel)), (List.mem_of_getElem? (i := 1221) (by decide +kernel))⟩
theorem m_ab_inflateIfNeededForP : mP B_ab_inflateIfNeededFor 1 := ⟨⟨⟨by decide +kernel, Or.inl rfl⟩, rfl, (List.mem_of_getElem? (i := 617) (by decide +kernel)), by decide +kernel, (List.mem_of_getElem? (i := 45) (by decide +kernel)), ⟨by decide, by decide⟩, by decide⟩, rfl, (by unfold nar; decide +kernel), (List.mem_of_getElem? (i := 616) (by decide +kernel)), (List.mem_of_getElem? (i := 1221) (by decide +kernel)), (List.mem_of_getElem? (i := 314) (by decide +kernel)), by decide⟩
noncomputable def F_ab_inflateIfNeededFor (a0 : Nat) (a1 : Nat) (S : shp) (v : vl) : Option Unit :=
  grd (kin S a0 = some (0, 7)) <| grd (kin S a1 = some (20, 0)) <| (F_js_coder a1 S v).bind fun x3 => (if (gi v a0 1) = x3 then some (()) else none)
theorem ok_ab_inflateIfNeededFor (a0 : Nat) (a1 : Nat) (S : shp) (v : vl) : SimK B_ab_inflateIfNeededFor 0 (entB (bN B_ab_inflateIfNeededFor) [.ref a0, .ref a1]) [] S v (F_ab_inflateIfNeededFor a0 a1 S v) (ρrv S v) := by
  show SimK B_ab_inflateIfNeededFor 0 [some (.ref a0), some (.ref a1)] [] S v (F_ab_inflateIfNeededFor a0 a1 S v) _
  unfold F_ab_inflateIfNeededFor
  refine sim_gets (idx := 18) (m := 1) (pc3 := 3) (by decide) (by decide +kernel) (show Cond.fieldLink (owns (bO B_ab_inflateIfNeededFor)) 18 "java/lang/String" "COMPACT_STRINGS" "Z" ∈ tb2 from (List.mem_of_getElem? (i := 293) (by decide +kernel))) rfl ?_
  show SimK _ _ _ ([.int (J 1)]) _ _ _ _
  refine sim_ifF (c := (J 1) = (J 0)) (by decide) (sim_eq0 (o := 18) (tg := 21) (f := 6) (by decide +kernel) rfl rfl (fun _ => sim_none) (fun _ => ?_))
  refine sim_grd fun h1 => ?_
  refine sim_seg [(.aload_n 0, 0, 0, 0), (.getfield 22, 7, 1, 0), (.aload_n 1, 0, 0, 0)] [] (q := 11) (L' := [some (.ref a0), some (.ref a1)]) (st' := [.ref a1, .int (gi v a0 1)]) (v1 := v) (by decide +kernel) rfl ⟨h1, trivial⟩ ?_
  refine sim_grd fun h2 => ?_
  refine sc_ri (pc3 := 14) (cf_T (idx := 40) [] m_js_coder ⟨by decide, by decide⟩ (List.mem_of_getElem? (i := 618) (by decide +kernel)) rfl (Nat.le_of_ble_eq_true rfl) h2 (by decide +kernel) (Nat.le_of_ble_eq_true rfl) rfl) (ok_js_coder a1 S v) rfl (fun x3 => ?_)
  refine sim_eq (o := 7) (tg := 21) (f := 17) (by decide +kernel) rfl rfl (fun _ => ?_) (fun _ => ?_)
  · exact sim_vret (by decide +kernel) rfl rfl
  · exact sim_none
def B_js_getBytes : bd := (⟨"java/lang/String", "getBytes", "([BIB)V"⟩, prog_19_method_147_code, 4, none, [], 9, 2)
theorem m_js_getBytes : mT B_js_getBytes 3 := ⟨⟨⟨by decide +kernel, Or.inl rfl⟩, rfl, (List.mem_of_getElem? (i := 641) (by decide +kernel)), by decide +kernel, (List.mem_of_getElem? (i := 47) (by decide +kernel)), ⟨by decide, by decide⟩, by decide⟩, rfl, (by unfold nar; decide +kernel), (List.mem_of_getElem? (i := 639) (by decide +kernel)), rfl, (List.mem_of_getElem? (i := 640) (by decide +kernel))⟩
noncomputable def F_js_getBytes (a0 : Nat) (a1 : Nat) (b2 : Int32) (b3 : Int32) (S : shp) (v : vl) : Option vl :=
  grd (kin S a0 = some (20, 0)) <| (F_js_coder a0 S v).bind fun x2 => (if x2 = b3 then (gr S a0 0).bind fun r3 => grd (isArr (kin S r3)) <| grd ((kin S r3 = some (2, alen S r3) ∨ kin S r3 = some (12, alen S r3))) <| grd (kin S a1 = some (2, alen S a1)) <| grd ((¬ (J 0) < 0 ∧ ¬ (b2 <<< (b3 &&& 31)) < 0 ∧ ¬ (nI (alen S r3)) < 0) ∧ (Int32.toNatClampNeg (J 0)) + (Int32.toNatClampNeg (nI (alen S r3))) ≤ alen S r3 ∧ (Int32.toNatClampNeg (b2 <<< (b3 &&& 31))) + (Int32.toNatClampNeg (nI (alen S r3))) ≤ alen S a1 ∧ ∀ i, i < (Int32.toNatClampNeg (nI (alen S r3))) → fits (aty 1) (.int (gi v r3 ((Int32.toNatClampNeg (J 0)) + i))) = true) <| lt (cpy v r3 (Int32.toNatClampNeg (J 0)) a1 (Int32.toNatClampNeg (b2 <<< (b3 &&& 31))) (Int32.toNatClampNeg (nI (alen S r3)))) fun w9 => some (w9) else none)
theorem ok_js_getBytes (a0 : Nat) (a1 : Nat) (b2 : Int32) (b3 : Int32) (S : shp) (v : vl) : SimK B_js_getBytes 0 (entB (bN B_js_getBytes) [.ref a0, .ref a1, .int b2, .int b3]) [] S v (F_js_getBytes a0 a1 b2 b3 S v) (ρpv S) := by
  show SimK B_js_getBytes 0 [some (.ref a0), some (.ref a1), some (.int b2), some (.int b3)] [] S v (F_js_getBytes a0 a1 b2 b3 S v) _
  unfold F_js_getBytes
  refine sim_seg [(.aload_n 0, 0, 0, 0)] [] (q := 1) (L' := [some (.ref a0), some (.ref a1), some (.int b2), some (.int b3)]) (st' := [.ref a0]) (v1 := v) (by decide +kernel) rfl trivial ?_
  refine sim_grd fun h1 => ?_
  refine sc_ri (pc3 := 4) (cf_T (idx := 335) [] m_js_coder ⟨by decide, by decide⟩ (List.mem_of_getElem? (i := 393) (by decide +kernel)) rfl (Nat.le_of_ble_eq_true rfl) h1 (by decide +kernel) (Nat.le_of_ble_eq_true rfl) rfl) (ok_js_coder a0 S v) rfl (fun x2 => ?_)
  refine sim_seg [(.iload_n 3, 0, 0, 0)] [] (q := 5) (L' := [some (.ref a0), some (.ref a1), some (.int b2), some (.int b3)]) (st' := [.int b3, .int x2]) (v1 := v) (by decide +kernel) rfl trivial ?_
  refine sim_ne (o := 23) (tg := 28) (f := 8) (by decide +kernel) rfl rfl (fun _ => ?_) (fun _ => ?_)
  · refine sim_seg [(.aload_n 0, 0, 0, 0)] [] (q := 9) (L' := [some (.ref a0), some (.ref a1), some (.int b2), some (.int b3)]) (st' := [.ref a0]) (v1 := v) (by decide +kernel) rfl trivial ?_
    refine sim_bind fun r3 h4 => ?_
    refine sim_gett0 (idx := 9) (pc3 := 12) h1 h4 (by decide +kernel) (List.mem_of_getElem? (i := 1205) (by decide +kernel)) rfl ?_
    refine sim_seg [(.iconst 0, 0, 0, 0), (.aload_n 1, 0, 0, 0), (.iload_n 2, 0, 0, 0), (.iload_n 3, 0, 0, 0), (.ishl, 0, 0, 0), (.aload_n 0, 0, 0, 0)] [] (q := 18) (L' := [some (.ref a0), some (.ref a1), some (.int b2), some (.int b3)]) (st' := [.ref a0, .int (b2 <<< (b3 &&& 31)), .ref a1, .int (J 0), .ref r3]) (v1 := v) (by decide +kernel) rfl trivial ?_
    refine sim_gett0 (idx := 9) (pc3 := 21) h1 h4 (by decide +kernel) (List.mem_of_getElem? (i := 1205) (by decide +kernel)) rfl ?_
    refine sim_grd fun h5 => ?_
    refine sim_seg [(.arraylength, 0, 0, 0)] [] (q := 22) (L' := [some (.ref a0), some (.ref a1), some (.int b2), some (.int b3)]) (st' := [.int (nI (alen S r3)), .int (b2 <<< (b3 &&& 31)), .ref a1, .int (J 0), .ref r3]) (v1 := v) (by decide +kernel) rfl ⟨h5, trivial⟩ ?_
    refine sim_grd fun h6 => ?_
    refine sim_grd fun h7 => ?_
    refine sim_grd fun h8 => ?_
    refine sim_copy (idx := 212) (ty := 1) (pc3 := 25) (by decide) (by decide +kernel) (List.mem_of_getElem? (i := 642) (by decide +kernel)) h6 h7 h8 (by decide) (Nat.le_of_ble_eq_true rfl) rfl (fun w9 => ?_)
    refine sim_seg [(.goto 18, 0, 0, 0)] [] (q := 43) (L' := [some (.ref a0), some (.ref a1), some (.int b2), some (.int b3)]) (st' := []) (v1 := w9) (by decide +kernel) rfl trivial ?_
    exact sim_vret (by decide +kernel) rfl rfl
  · exact sim_none
def B_ab_putStringAt : bd := (⟨"java/lang/AbstractStringBuilder", "putStringAt", "(ILjava/lang/String;)V"⟩, prog_9_method_73_code, 3, none, [], 8, 3)
theorem m_ab_putStringAt : mU B_ab_putStringAt 2 := ⟨⟨⟨by decide +kernel, Or.inl rfl⟩, rfl, (List.mem_of_getElem? (i := 613) (by decide +kernel)), by decide +kernel, (List.mem_of_getElem? (i := 45) (by decide +kernel)), ⟨by decide, by decide⟩, by decide⟩, rfl, (by unfold nar; decide +kernel), (List.mem_of_getElem? (i := 612) (by decide +kernel)), (List.mem_of_getElem? (i := 2) (by decide +kernel)), (List.mem_of_getElem? (i := 1220) (by decide +kernel))⟩
theorem m_ab_putStringAtP : mP B_ab_putStringAt 2 := ⟨⟨⟨by decide +kernel, Or.inl rfl⟩, rfl, (List.mem_of_getElem? (i := 613) (by decide +kernel)), by decide +kernel, (List.mem_of_getElem? (i := 45) (by decide +kernel)), ⟨by decide, by decide⟩, by decide⟩, rfl, (by unfold nar; decide +kernel), (List.mem_of_getElem? (i := 612) (by decide +kernel)), (List.mem_of_getElem? (i := 1220) (by decide +kernel)), (List.mem_of_getElem? (i := 314) (by decide +kernel)), by decide⟩
noncomputable def F_ab_putStringAt (a0 : Nat) (b1 : Int32) (a2 : Nat) (S : shp) (v : vl) : Option vl :=
  grd (kin S a0 = some (0, 7)) <| (F_ab_inflateIfNeededFor a0 a2 S v).bind fun _ => (gr S a0 0).bind fun r2 => grd (kin S a2 = some (20, 0)) <| (F_js_getBytes a2 r2 b1 (gi v a0 1) S v).bind fun w5 => some (w5)
theorem ok_ab_putStringAt (a0 : Nat) (b1 : Int32) (a2 : Nat) (S : shp) (v : vl) : SimK B_ab_putStringAt 0 (entB (bN B_ab_putStringAt) [.ref a0, .int b1, .ref a2]) [] S v (F_ab_putStringAt a0 b1 a2 S v) (ρpv S) := by
  show SimK B_ab_putStringAt 0 [some (.ref a0), some (.int b1), some (.ref a2)] [] S v (F_ab_putStringAt a0 b1 a2 S v) _
  unfold F_ab_putStringAt
  refine sim_seg [(.aload_n 0, 0, 0, 0), (.aload_n 2, 0, 0, 0)] [] (q := 2) (L' := [some (.ref a0), some (.int b1), some (.ref a2)]) (st' := [.ref a2, .ref a0]) (v1 := v) (by decide +kernel) rfl trivial ?_
  refine sim_grd fun h1 => ?_
  refine sc_rv (pc3 := 5) (cf_U (idx := 397) [.ref a2] m_ab_inflateIfNeededFor ⟨by decide, by decide⟩ (List.mem_of_getElem? (i := 614) (by decide +kernel)) rfl (Nat.le_of_ble_eq_true rfl) h1 (by decide +kernel) (Nat.le_of_ble_eq_true rfl) rfl) (ok_ab_inflateIfNeededFor a0 a2 S v) rfl (fun _ => ?_)
  refine sim_bind fun r2 h3 => ?_
  refine sim_seg [(.aload_n 2, 0, 0, 0), (.aload_n 0, 0, 0, 0), (.getfield 15, 7, 0, 0), (.iload_n 1, 0, 0, 0), (.aload_n 0, 0, 0, 0), (.getfield 22, 7, 1, 0)] [r2] (q := 15) (L' := [some (.ref a0), some (.int b1), some (.ref a2)]) (st' := [.int (gi v a0 1), .int b1, .ref r2, .ref a2]) (v1 := v) (by decide +kernel) rfl ⟨⟨h1, h3⟩, h1, trivial⟩ ?_
  refine sim_grd fun h4 => ?_
  refine sc_pv (pc3 := 18) (cf_T (idx := 399) [.ref r2, .int b1, .int (gi v a0 1)] m_js_getBytes ⟨by decide, by decide⟩ (List.mem_of_getElem? (i := 638) (by decide +kernel)) rfl (Nat.le_of_ble_eq_true rfl) h4 (by decide +kernel) (Nat.le_of_ble_eq_true rfl) rfl) (ok_js_getBytes a2 r2 b1 (gi v a0 1) S v) rfl (fun w5 => ?_)
  exact sim_vret (by decide +kernel) rfl rfl
def B_ab_append : bd := (⟨"java/lang/AbstractStringBuilder", "append", "(Ljava/lang/String;)Ljava/lang/AbstractStringBuilder;"⟩, prog_9_method_22_code, 3, (some (.object "java/lang/AbstractStringBuilder")), [], 8, 4)
theorem m_ab_appendP : mP B_ab_append 1 := ⟨⟨⟨by decide +kernel, Or.inl rfl⟩, rfl, (List.mem_of_getElem? (i := 551) (by decide +kernel)), by decide +kernel, (List.mem_of_getElem? (i := 45) (by decide +kernel)), ⟨by decide, by decide⟩, by decide⟩, rfl, (by unfold nar; decide +kernel), (List.mem_of_getElem? (i := 550) (by decide +kernel)), (List.mem_of_getElem? (i := 1216) (by decide +kernel)), (List.mem_of_getElem? (i := 314) (by decide +kernel)), by decide⟩
noncomputable def F_ab_append (a0 : Nat) (a1 : Nat) (S : shp) (v : vl) : Option ((Option Nat) × shp × vl) :=
  grd (kin S a1 = some (20, 0)) <| (F_js_length a1 S v).bind fun x2 => grd (kin S a0 = some (0, 7)) <| (F_ab_ensureCapacityInternal a0 ((gi v a0 3) + x2) S v).bind fun (S4, w5) => (F_ab_putStringAt a0 (gi w5 a0 3) a1 S4 w5).bind fun w7 => lt (si w7 a0 3 ((gi w7 a0 3) + x2)) fun w8 => some (((some a0), S4, w8))
theorem ok_ab_append (a0 : Nat) (a1 : Nat) (S : shp) (v : vl) : SimK B_ab_append 0 (entB (bN B_ab_append) [.ref a0, .ref a1]) [] S v (F_ab_append a0 a1 S v) (ρgq) := by
  show SimK B_ab_append 0 [some (.ref a0), some (.ref a1), none] [] S v (F_ab_append a0 a1 S v) _
  unfold F_ab_append
  refine sim_seg [(.aload_n 1, 0, 0, 0)] [] (q := 1) (L' := [some (.ref a0), some (.ref a1), none]) (st' := [.ref a1]) (v1 := v) (by decide +kernel) rfl trivial ?_
  refine sim_ifnonnullS (o := 8) (tg := 9) (by decide +kernel) rfl ?_
  refine sim_seg [(.aload_n 1, 0, 0, 0)] [] (q := 10) (L' := [some (.ref a0), some (.ref a1), none]) (st' := [.ref a1]) (v1 := v) (by decide +kernel) rfl trivial ?_
  refine sim_grd fun h1 => ?_
  refine sc_ri (pc3 := 13) (cf_T (idx := 32) [] m_js_length ⟨by decide, by decide⟩ (List.mem_of_getElem? (i := 609) (by decide +kernel)) rfl (Nat.le_of_ble_eq_true rfl) h1 (by decide +kernel) (Nat.le_of_ble_eq_true rfl) rfl) (ok_js_length a1 S v) rfl (fun x2 => ?_)
  refine sim_seg [(.istore_n 2, 0, 0, 0)] [] (q := 14) (L' := [some (.ref a0), some (.ref a1), some (.int x2)]) (st' := []) (v1 := v) (by decide +kernel) rfl trivial ?_
  refine sim_grd fun h3 => ?_
  refine sim_seg [(.aload_n 0, 0, 0, 0), (.aload_n 0, 0, 0, 0), (.getfield 79, 7, 3, 0), (.iload_n 2, 0, 0, 0), (.iadd, 0, 0, 0)] [] (q := 21) (L' := [some (.ref a0), some (.ref a1), some (.int x2)]) (st' := [.int ((gi v a0 3) + x2), .ref a0]) (v1 := v) (by decide +kernel) rfl ⟨h3, trivial⟩ ?_
  refine sc_gv (pc3 := 24) (cf_U (idx := 100) [.int ((gi v a0 3) + x2)] m_ab_ensureCapacityInternal ⟨by decide, by decide⟩ (List.mem_of_getElem? (i := 556) (by decide +kernel)) rfl (Nat.le_of_ble_eq_true rfl) h3 (by decide +kernel) (Nat.le_of_ble_eq_true rfl) rfl) (ok_ab_ensureCapacityInternal a0 ((gi v a0 3) + x2) S v) rfl (fun S4 w5 h6 => ?_)
  refine sim_seg [(.aload_n 0, 0, 0, 0), (.aload_n 0, 0, 0, 0), (.getfield 79, 7, 3, 0), (.aload_n 1, 0, 0, 0)] [] (q := 30) (L' := [some (.ref a0), some (.ref a1), some (.int x2)]) (st' := [.ref a1, .int (gi w5 a0 3), .ref a0]) (v1 := w5) (by decide +kernel) rfl ⟨(h6.2.2.2.2 _ _ h3), trivial⟩ ?_
  refine sc_pv (pc3 := 33) (cf_U (idx := 208) [.int (gi w5 a0 3), .ref a1] m_ab_putStringAt ⟨by decide, by decide⟩ (List.mem_of_getElem? (i := 610) (by decide +kernel)) rfl (Nat.le_of_ble_eq_true rfl) (h6.2.2.2.2 _ _ h3) (by decide +kernel) (Nat.le_of_ble_eq_true rfl) rfl) (ok_ab_putStringAt a0 (gi w5 a0 3) a1 S4 w5) rfl (fun w7 => ?_)
  refine sim_seg [(.aload_n 0, 0, 0, 0), (.dup, 0, 0, 0), (.getfield 79, 7, 3, 0), (.iload_n 2, 0, 0, 0), (.iadd, 0, 0, 0), (.putfield 79, 7, 3, 0), (.aload_n 0, 0, 0, 0)] [] (q := 44) (L' := [some (.ref a0), some (.ref a1), some (.int x2)]) (st' := [.ref a0]) (v1 := (si w7 a0 3 ((gi w7 a0 3) + x2))) (by decide +kernel) rfl ⟨(h6.2.2.2.2 _ _ h3), (h6.2.2.2.2 _ _ h3), trivial⟩ ?_
  refine sim_lt (x := (si w7 a0 3 ((gi w7 a0 3) + x2))) ?_
  generalize (si w7 a0 3 ((gi w7 a0 3) + x2)) = w8
  exact sim_aretS (by decide +kernel) rfl (Or.inl ⟨_, rfl⟩) rfl
def B_sb_append : bd := (⟨"java/lang/StringBuilder", "append", "(Ljava/lang/String;)Ljava/lang/StringBuilder;"⟩, prog_20_method_7_code, 2, (some (.object "java/lang/StringBuilder")), [], 7, 5)
theorem m_sb_append : mV B_sb_append 7 1 := ⟨⟨⟨by decide +kernel, Or.inl rfl⟩, rfl, (List.mem_of_getElem? (i := 548) (by decide +kernel)), by decide +kernel, (List.mem_of_getElem? (i := 46) (by decide +kernel)), ⟨by decide, by decide⟩, by decide⟩, rfl, (by unfold nar; decide +kernel), (List.mem_of_getElem? (i := 546) (by decide +kernel)), rfl, (List.mem_of_getElem? (i := 547) (by decide +kernel))⟩
noncomputable def F_sb_append (a0 : Nat) (a1 : Nat) (S : shp) (v : vl) : Option ((Option Nat) × shp × vl) :=
  grd (kin S a0 = some (0, 7)) <| (F_ab_append a0 a1 S v).bind fun (q2, S3, w4) => oc2 q2 none fun r6 => some (((some a0), S3, w4))
theorem ok_sb_append (a0 : Nat) (a1 : Nat) (S : shp) (v : vl) : SimK B_sb_append 0 (entB (bN B_sb_append) [.ref a0, .ref a1]) [] S v (F_sb_append a0 a1 S v) (ρgq) := by
  show SimK B_sb_append 0 [some (.ref a0), some (.ref a1)] [] S v (F_sb_append a0 a1 S v) _
  unfold F_sb_append
  refine sim_seg [(.aload_n 0, 0, 0, 0), (.aload_n 1, 0, 0, 0)] [] (q := 2) (L' := [some (.ref a0), some (.ref a1)]) (st' := [.ref a1, .ref a0]) (v1 := v) (by decide +kernel) rfl trivial ?_
  refine sim_grd fun h1 => ?_
  refine sc_gq (pc3 := 5) (cf_P (idx := 29) [.ref a1] m_ab_appendP ⟨by decide, by decide⟩ rfl (List.mem_of_getElem? (i := 549) (by decide +kernel)) rfl (Nat.le_of_ble_eq_true rfl) h1 (by decide +kernel) (Nat.le_of_ble_eq_true rfl) rfl) (ok_ab_append a0 a1 S v) rfl (fun q2 S3 w4 h5 => ?_)
  refine sim_oc2 (fun _ => sim_none) (fun r6 _ => ?_)
  refine sim_seg [(.pop, 0, 0, 0), (.aload_n 0, 0, 0, 0)] [] (q := 7) (L' := [some (.ref a0), some (.ref a1)]) (st' := [.ref a0]) (v1 := w4) (by decide +kernel) rfl trivial ?_
  exact sim_aretS (by decide +kernel) rfl (Or.inl ⟨_, rfl⟩) rfl
def B_js_isLatin1_m : bd := (⟨"java/lang/String", "isLatin1", "()Z"⟩, prog_19_method_154_code, 1, (some .boolean), [], 9, 0)
theorem m_js_isLatin1_m : mV B_js_isLatin1_m 8 0 := ⟨⟨⟨by decide +kernel, Or.inl rfl⟩, rfl, (List.mem_of_getElem? (i := 405) (by decide +kernel)), by decide +kernel, (List.mem_of_getElem? (i := 47) (by decide +kernel)), ⟨by decide, by decide⟩, by decide⟩, rfl, (by unfold nar; decide +kernel), (List.mem_of_getElem? (i := 403) (by decide +kernel)), rfl, (List.mem_of_getElem? (i := 404) (by decide +kernel))⟩
noncomputable def F_js_isLatin1_m (a0 : Nat) (S : shp) (v : vl) : Option Int32 :=
  grd (kin S a0 = some (0, 8)) <| (if (gi v a0 1) = (J 0) then some ((J 1)) else some ((J 0)))
theorem ok_js_isLatin1_m (a0 : Nat) (S : shp) (v : vl) : SimK B_js_isLatin1_m 0 (entB (bN B_js_isLatin1_m) [.ref a0]) [] S v (F_js_isLatin1_m a0 S v) (ρri S v) := by
  show SimK B_js_isLatin1_m 0 [some (.ref a0)] [] S v (F_js_isLatin1_m a0 S v) _
  unfold F_js_isLatin1_m
  refine sim_gets (idx := 38) (m := 1) (pc3 := 3) (by decide) (by decide +kernel) (show Cond.fieldLink (owns (bO B_js_isLatin1_m)) 38 "java/lang/String" "COMPACT_STRINGS" "Z" ∈ tb2 from (List.mem_of_getElem? (i := 397) (by decide +kernel))) rfl ?_
  show SimK _ _ _ ([.int (J 1)]) _ _ _ _
  refine sim_ifF (c := (J 1) = (J 0)) (by decide) (sim_eq0 (o := 14) (tg := 17) (f := 6) (by decide +kernel) rfl rfl (fun _ => sim_none) (fun _ => ?_))
  refine sim_grd fun h1 => ?_
  refine sim_seg [(.aload_n 0, 0, 0, 0), (.getfield 15, 8, 1, 0)] [] (q := 10) (L' := [some (.ref a0)]) (st' := [.int (gi v a0 1)]) (v1 := v) (by decide +kernel) rfl ⟨h1, trivial⟩ ?_
  refine sim_ne0 (o := 7) (tg := 17) (f := 13) (by decide +kernel) rfl rfl (fun _ => ?_) (fun _ => ?_)
  · refine sim_seg [(.iconst 1, 0, 0, 1), (.goto 4, 0, 0, 0)] [] (q := 18) (L' := [some (.ref a0)]) (st' := [.int (J 1)]) (v1 := v) (by decide +kernel) rfl trivial ?_
    exact sim_iret (by decide +kernel) rfl (by decide) rfl
  · refine sim_seg [(.iconst 0, 0, 0, 0)] [] (q := 18) (L' := [some (.ref a0)]) (st' := [.int (J 0)]) (v1 := v) (by decide +kernel) rfl trivial ?_
    exact sim_iret (by decide +kernel) rfl (by decide) rfl
def B_js_charAt_m : bd := (⟨"java/lang/String", "charAt", "(I)C"⟩, prog_19_method_56_code, 2, (some .char), [], 9, 3)
theorem m_js_charAt_m : mV B_js_charAt_m 8 1 := ⟨⟨⟨by decide +kernel, Or.inl rfl⟩, rfl, (List.mem_of_getElem? (i := 401) (by decide +kernel)), by decide +kernel, (List.mem_of_getElem? (i := 47) (by decide +kernel)), ⟨by decide, by decide⟩, by decide⟩, rfl, (by unfold nar; decide +kernel), (List.mem_of_getElem? (i := 399) (by decide +kernel)), rfl, (List.mem_of_getElem? (i := 400) (by decide +kernel))⟩
noncomputable def F_js_charAt_m (a0 : Nat) (b1 : Int32) (S : shp) (v : vl) : Option Int32 :=
  grd (kin S a0 = some (0, 8)) <| (F_js_isLatin1_m a0 S v).bind fun x2 => (if x2 = (J 0) then none else (gr S a0 0).bind fun r3 => (F_l1_charAt r3 b1 S v).bind fun x5 => grd (narrow .char (.int x5) = .int x5) <| some (x5))
theorem ok_js_charAt_m (a0 : Nat) (b1 : Int32) (S : shp) (v : vl) : SimK B_js_charAt_m 0 (entB (bN B_js_charAt_m) [.ref a0, .int b1]) [] S v (F_js_charAt_m a0 b1 S v) (ρri S v) := by
  show SimK B_js_charAt_m 0 [some (.ref a0), some (.int b1)] [] S v (F_js_charAt_m a0 b1 S v) _
  unfold F_js_charAt_m
  refine sim_seg [(.aload_n 0, 0, 0, 0)] [] (q := 1) (L' := [some (.ref a0), some (.int b1)]) (st' := [.ref a0]) (v1 := v) (by decide +kernel) rfl trivial ?_
  refine sim_grd fun h1 => ?_
  refine sc_ri (pc3 := 4) (cf_V (idx := 492) (ci := 8) [] m_js_isLatin1_m (by decide) ⟨by decide, by decide⟩ (List.mem_of_getElem? (i := 402) (by decide +kernel)) rfl (Nat.le_of_ble_eq_true rfl) h1 (by decide +kernel) (Nat.le_of_ble_eq_true rfl) rfl) (ok_js_isLatin1_m a0 S v) rfl (fun x2 => ?_)
  refine sim_eq0 (o := 12) (tg := 16) (f := 7) (by decide +kernel) rfl rfl (fun _ => ?_) (fun _ => ?_)
  · exact sim_none
  · refine sim_bind fun r3 h4 => ?_
    refine sim_seg [(.aload_n 0, 0, 0, 0), (.getfield 9, 8, 0, 0), (.iload_n 1, 0, 0, 0)] [r3] (q := 12) (L' := [some (.ref a0), some (.int b1)]) (st' := [.int b1, .ref r3]) (v1 := v) (by decide +kernel) rfl ⟨⟨h1, h4⟩, trivial⟩ ?_
    refine sc_ri (pc3 := 15) (cf_S (idx := 495) [.ref r3, .int b1] m_l1_charAt ⟨by decide, by decide⟩ (List.mem_of_getElem? (i := 406) (by decide +kernel)) rfl (Nat.le_of_ble_eq_true rfl) (by decide +kernel) (Nat.le_of_ble_eq_true rfl) rfl) (ok_l1_charAt r3 b1 S v) rfl (fun x5 => ?_)
    refine sim_grd fun h6 => ?_
    exact sim_iret (by decide +kernel) rfl h6 rfl
def B_js_coder_m : bd := (⟨"java/lang/String", "coder", "()B"⟩, prog_19_method_152_code, 1, (some .byte), [], 9, 0)
theorem m_js_coder_m : mV B_js_coder_m 8 0 := ⟨⟨⟨by decide +kernel, Or.inl rfl⟩, rfl, (List.mem_of_getElem? (i := 396) (by decide +kernel)), by decide +kernel, (List.mem_of_getElem? (i := 47) (by decide +kernel)), ⟨by decide, by decide⟩, by decide⟩, rfl, (by unfold nar; decide +kernel), (List.mem_of_getElem? (i := 394) (by decide +kernel)), rfl, (List.mem_of_getElem? (i := 395) (by decide +kernel))⟩
noncomputable def F_js_coder_m (a0 : Nat) (S : shp) (v : vl) : Option Int32 :=
  grd (kin S a0 = some (0, 8)) <| grd (narrow .byte (.int (gi v a0 1)) = .int (gi v a0 1)) <| some ((gi v a0 1))
theorem ok_js_coder_m (a0 : Nat) (S : shp) (v : vl) : SimK B_js_coder_m 0 (entB (bN B_js_coder_m) [.ref a0]) [] S v (F_js_coder_m a0 S v) (ρri S v) := by
  show SimK B_js_coder_m 0 [some (.ref a0)] [] S v (F_js_coder_m a0 S v) _
  unfold F_js_coder_m
  refine sim_gets (idx := 38) (m := 1) (pc3 := 3) (by decide) (by decide +kernel) (show Cond.fieldLink (owns (bO B_js_coder_m)) 38 "java/lang/String" "COMPACT_STRINGS" "Z" ∈ tb2 from (List.mem_of_getElem? (i := 397) (by decide +kernel))) rfl ?_
  show SimK _ _ _ ([.int (J 1)]) _ _ _ _
  refine sim_ifF (c := (J 1) = (J 0)) (by decide) (sim_eq0 (o := 10) (tg := 13) (f := 6) (by decide +kernel) rfl rfl (fun _ => sim_none) (fun _ => ?_))
  refine sim_grd fun h1 => ?_
  refine sim_seg [(.aload_n 0, 0, 0, 0), (.getfield 15, 8, 1, 0), (.goto 4, 0, 0, 0)] [] (q := 14) (L' := [some (.ref a0)]) (st' := [.int (gi v a0 1)]) (v1 := v) (by decide +kernel) rfl ⟨h1, trivial⟩ ?_
  refine sim_grd fun h2 => ?_
  exact sim_iret (by decide +kernel) rfl h2 rfl
def B_js_length_m : bd := (⟨"java/lang/String", "length", "()I"⟩, prog_19_method_54_code, 1, (some .int), [], 9, 1)
theorem m_js_length_m : mV B_js_length_m 8 0 := ⟨⟨⟨by decide +kernel, Or.inl rfl⟩, rfl, (List.mem_of_getElem? (i := 392) (by decide +kernel)), by decide +kernel, (List.mem_of_getElem? (i := 47) (by decide +kernel)), ⟨by decide, by decide⟩, by decide⟩, rfl, (by unfold nar; decide +kernel), (List.mem_of_getElem? (i := 390) (by decide +kernel)), rfl, (List.mem_of_getElem? (i := 391) (by decide +kernel))⟩
noncomputable def F_js_length_m (a0 : Nat) (S : shp) (v : vl) : Option Int32 :=
  grd (kin S a0 = some (0, 8)) <| (gr S a0 0).bind fun r2 => grd (isArr (kin S r2)) <| (F_js_coder_m a0 S v).bind fun x5 => some (((nI (alen S r2)) >>> (x5 &&& 31)))
theorem ok_js_length_m (a0 : Nat) (S : shp) (v : vl) : SimK B_js_length_m 0 (entB (bN B_js_length_m) [.ref a0]) [] S v (F_js_length_m a0 S v) (ρri S v) := by
  show SimK B_js_length_m 0 [some (.ref a0)] [] S v (F_js_length_m a0 S v) _
  unfold F_js_length_m
  refine sim_grd fun h1 => ?_
  refine sim_bind fun r2 h3 => ?_
  refine sim_grd fun h4 => ?_
  refine sim_seg [(.aload_n 0, 0, 0, 0), (.getfield 9, 8, 0, 0), (.arraylength, 0, 0, 0), (.aload_n 0, 0, 0, 0)] [r2] (q := 6) (L' := [some (.ref a0)]) (st' := [.ref a0, .int (nI (alen S r2))]) (v1 := v) (by decide +kernel) rfl ⟨⟨h1, h3⟩, h4, trivial⟩ ?_
  refine sc_ri (pc3 := 9) (cf_V (idx := 335) (ci := 8) [] m_js_coder_m (by decide) ⟨by decide, by decide⟩ (List.mem_of_getElem? (i := 393) (by decide +kernel)) rfl (Nat.le_of_ble_eq_true rfl) h1 (by decide +kernel) (Nat.le_of_ble_eq_true rfl) rfl) (ok_js_coder_m a0 S v) rfl (fun x5 => ?_)
  refine sim_seg [(.ishr, 0, 0, 0)] [] (q := 10) (L' := [some (.ref a0)]) (st' := [.int ((nI (alen S r2)) >>> (x5 &&& 31))]) (v1 := v) (by decide +kernel) rfl trivial ?_
  exact sim_iret (by decide +kernel) rfl rfl rfl
def B_ab_getValue : bd := (⟨"java/lang/AbstractStringBuilder", "getValue", "()[B"⟩, prog_9_method_64_code, 1, (some (.array .byte)), [], 8, 0)
theorem m_ab_getValue : mU B_ab_getValue 0 := ⟨⟨⟨by decide +kernel, Or.inl rfl⟩, rfl, (List.mem_of_getElem? (i := 1176) (by decide +kernel)), by decide +kernel, (List.mem_of_getElem? (i := 45) (by decide +kernel)), ⟨by decide, by decide⟩, by decide⟩, rfl, (by unfold nar; decide +kernel), (List.mem_of_getElem? (i := 1173) (by decide +kernel)), (List.mem_of_getElem? (i := 1175) (by decide +kernel)), (List.mem_of_getElem? (i := 1174) (by decide +kernel))⟩
theorem m_ab_getValueP : mP B_ab_getValue 0 := ⟨⟨⟨by decide +kernel, Or.inl rfl⟩, rfl, (List.mem_of_getElem? (i := 1176) (by decide +kernel)), by decide +kernel, (List.mem_of_getElem? (i := 45) (by decide +kernel)), ⟨by decide, by decide⟩, by decide⟩, rfl, (by unfold nar; decide +kernel), (List.mem_of_getElem? (i := 1173) (by decide +kernel)), (List.mem_of_getElem? (i := 1174) (by decide +kernel)), (List.mem_of_getElem? (i := 314) (by decide +kernel)), by decide⟩
noncomputable def F_ab_getValue (a0 : Nat) (S : shp) (v : vl) : Option (Option Nat) :=
  grd (kin S a0 = some (0, 7)) <| (gr S a0 0).bind fun r2 => some ((some r2))
theorem ok_ab_getValue (a0 : Nat) (S : shp) (v : vl) : SimK B_ab_getValue 0 (entB (bN B_ab_getValue) [.ref a0]) [] S v (F_ab_getValue a0 S v) (ρrq S v) := by
  show SimK B_ab_getValue 0 [some (.ref a0)] [] S v (F_ab_getValue a0 S v) _
  unfold F_ab_getValue
  refine sim_grd fun h1 => ?_
  refine sim_bind fun r2 h3 => ?_
  refine sim_seg [(.aload_n 0, 0, 0, 0), (.getfield 15, 7, 0, 0)] [r2] (q := 4) (L' := [some (.ref a0)]) (st' := [.ref r2]) (v1 := v) (by decide +kernel) rfl ⟨⟨h1, h3⟩, trivial⟩ ?_
  exact sim_aretS (by decide +kernel) rfl (Or.inr ⟨_, rfl⟩) rfl
def B_ab_length : bd := (⟨"java/lang/AbstractStringBuilder", "length", "()I"⟩, prog_9_method_6_code, 1, (some .int), [], 8, 0)
theorem m_ab_lengthP : mP B_ab_length 0 := ⟨⟨⟨by decide +kernel, Or.inl rfl⟩, rfl, (List.mem_of_getElem? (i := 1184) (by decide +kernel)), by decide +kernel, (List.mem_of_getElem? (i := 45) (by decide +kernel)), ⟨by decide, by decide⟩, by decide⟩, rfl, (by unfold nar; decide +kernel), (List.mem_of_getElem? (i := 1178) (by decide +kernel)), (List.mem_of_getElem? (i := 1179) (by decide +kernel)), (List.mem_of_getElem? (i := 314) (by decide +kernel)), by decide⟩
noncomputable def F_ab_length (a0 : Nat) (S : shp) (v : vl) : Option Int32 :=
  grd (kin S a0 = some (0, 7)) <| some ((gi v a0 3))
theorem ok_ab_length (a0 : Nat) (S : shp) (v : vl) : SimK B_ab_length 0 (entB (bN B_ab_length) [.ref a0]) [] S v (F_ab_length a0 S v) (ρri S v) := by
  show SimK B_ab_length 0 [some (.ref a0)] [] S v (F_ab_length a0 S v) _
  unfold F_ab_length
  refine sim_grd fun h1 => ?_
  refine sim_seg [(.aload_n 0, 0, 0, 0), (.getfield 79, 7, 3, 0)] [] (q := 4) (L' := [some (.ref a0)]) (st' := [.int (gi v a0 3)]) (v1 := v) (by decide +kernel) rfl ⟨h1, trivial⟩ ?_
  exact sim_iret (by decide +kernel) rfl rfl rfl
def B_sb_length : bd := (⟨"java/lang/StringBuilder", "length", "()I"⟩, prog_20_method_93_code, 1, (some .int), [], 7, 1)
theorem m_sb_length : mO B_sb_length (⟨"java/lang/AbstractStringBuilder", "length", "()I"⟩ : Jvm.MethodName) 0 := ⟨⟨⟨by decide +kernel, Or.inl rfl⟩, rfl, (List.mem_of_getElem? (i := 1182) (by decide +kernel)), by decide +kernel, (List.mem_of_getElem? (i := 46) (by decide +kernel)), ⟨by decide, by decide⟩, by decide⟩, rfl, (by unfold nar; decide +kernel), rfl, (List.mem_of_getElem? (i := 1181) (by decide +kernel)), (List.mem_of_getElem? (i := 1178) (by decide +kernel)), ⟨prog_9_method_6_code, 1, (Option.some Jvm.ClassFile.FieldType.int), (List.mem_of_getElem? (i := 1184) (by decide +kernel)), (by decide +kernel)⟩, (List.mem_of_getElem? (i := 1180) (by decide +kernel)), (List.mem_of_getElem? (i := 1179) (by decide +kernel)), ⟨by decide, by decide⟩⟩
noncomputable def F_sb_length (a0 : Nat) (S : shp) (v : vl) : Option Int32 :=
  grd (kin S a0 = some (0, 7)) <| (F_ab_length a0 S v).bind fun x2 => some (x2)
theorem ok_sb_length (a0 : Nat) (S : shp) (v : vl) : SimK B_sb_length 0 (entB (bN B_sb_length) [.ref a0]) [] S v (F_sb_length a0 S v) (ρri S v) := by
  show SimK B_sb_length 0 [some (.ref a0)] [] S v (F_sb_length a0 S v) _
  unfold F_sb_length
  refine sim_seg [(.aload_n 0, 0, 0, 0)] [] (q := 1) (L' := [some (.ref a0)]) (st' := [.ref a0]) (v1 := v) (by decide +kernel) rfl trivial ?_
  refine sim_grd fun h1 => ?_
  refine sc_ri (pc3 := 4) (cf_P (idx := 343) [] m_ab_lengthP ⟨by decide, by decide⟩ rfl (List.mem_of_getElem? (i := 1183) (by decide +kernel)) rfl (Nat.le_of_ble_eq_true rfl) h1 (by decide +kernel) (Nat.le_of_ble_eq_true rfl) rfl) (ok_ab_length a0 S v) rfl (fun x2 => ?_)
  exact sim_iret (by decide +kernel) rfl rfl rfl
def B_ar_checkLength : bd := (⟨"java/util/Arrays", "checkLength", "(II)V"⟩, prog_25_method_131_code, 2, none, [], 13, 0)
theorem m_ar_checkLength : mS B_ar_checkLength 2 := ⟨⟨⟨by decide +kernel, Or.inl rfl⟩, rfl, (List.mem_of_getElem? (i := 1194) (by decide +kernel)), by decide +kernel, (List.mem_of_getElem? (i := 51) (by decide +kernel)), ⟨by decide, by decide⟩, by decide⟩, rfl, (by unfold nar; decide +kernel), (List.mem_of_getElem? (i := 1193) (by decide +kernel))⟩
noncomputable def F_ar_checkLength (b0 : Int32) (b1 : Int32) (S : shp) (v : vl) : Option Unit :=
  (if b1 < b0 then none else some (()))
theorem ok_ar_checkLength (b0 : Int32) (b1 : Int32) (S : shp) (v : vl) : SimK B_ar_checkLength 0 (entB (bN B_ar_checkLength) [.int b0, .int b1]) [] S v (F_ar_checkLength b0 b1 S v) (ρrv S v) := by
  show SimK B_ar_checkLength 0 [some (.int b0), some (.int b1)] [] S v (F_ar_checkLength b0 b1 S v) _
  unfold F_ar_checkLength
  refine sim_seg [(.iload_n 1, 0, 0, 0), (.iload_n 0, 0, 0, 0)] [] (q := 2) (L' := [some (.int b0), some (.int b1)]) (st' := [.int b0, .int b1]) (v1 := v) (by decide +kernel) rfl trivial ?_
  refine sim_ge (o := 35) (tg := 37) (f := 5) (by decide +kernel) rfl rfl (fun _ => ?_) (fun _ => ?_)
  · exact sim_none
  · exact sim_vret (by decide +kernel) rfl rfl
def B_ar_copyOfRangeByte : bd := (⟨"java/util/Arrays", "copyOfRangeByte", "([BII)[B"⟩, prog_25_method_133_code, 5, (some (.array .byte)), [], 13, 2)
theorem m_ar_copyOfRangeByte : mS B_ar_copyOfRangeByte 3 := ⟨⟨⟨by decide +kernel, Or.inl rfl⟩, rfl, (List.mem_of_getElem? (i := 1191) (by decide +kernel)), by decide +kernel, (List.mem_of_getElem? (i := 51) (by decide +kernel)), ⟨by decide, by decide⟩, by decide⟩, rfl, (by unfold nar; decide +kernel), (List.mem_of_getElem? (i := 1190) (by decide +kernel))⟩
noncomputable def F_ar_copyOfRangeByte (a0 : Nat) (b1 : Int32) (b2 : Int32) (S : shp) (v : vl) : Option ((Option Nat) × shp × vl) :=
  (F_ar_checkLength b1 b2 S v).bind fun _ => grd (¬ (b2 - b1) < 0) <| grd ((Int32.toNatClampNeg (b2 - b1)) ≤ 65536) <| grd (kin S (nxt S) = none) <| lt3 (grow S (2, (Int32.toNatClampNeg (b2 - b1))) (Int32.toNatClampNeg (b2 - b1))) (nxt S) (zero v (nxt S)) fun S4 r5 v6 => grd (isArr (kin S4 a0)) <| (F_ma_min ((nI (alen S4 a0)) - b1) (b2 - b1) S4 v6).bind fun x10 => grd (kin S4 a0 = some (2, alen S4 a0)) <| grd ((¬ b1 < 0 ∧ ¬ (J 0) < 0 ∧ ¬ x10 < 0) ∧ (Int32.toNatClampNeg b1) + (Int32.toNatClampNeg x10) ≤ alen S4 a0 ∧ (Int32.toNatClampNeg (J 0)) + (Int32.toNatClampNeg x10) ≤ alen S4 r5 ∧ ∀ i, i < (Int32.toNatClampNeg x10) → fits (aty 1) (.int (gi v6 a0 ((Int32.toNatClampNeg b1) + i))) = true) <| lt (cpy v6 a0 (Int32.toNatClampNeg b1) r5 (Int32.toNatClampNeg (J 0)) (Int32.toNatClampNeg x10)) fun w13 => some (((some r5), S4, w13))
theorem ok_ar_copyOfRangeByte (a0 : Nat) (b1 : Int32) (b2 : Int32) (S : shp) (v : vl) : SimK B_ar_copyOfRangeByte 0 (entB (bN B_ar_copyOfRangeByte) [.ref a0, .int b1, .int b2]) [] S v (F_ar_copyOfRangeByte a0 b1 b2 S v) (ρgq) := by
  show SimK B_ar_copyOfRangeByte 0 [some (.ref a0), some (.int b1), some (.int b2), none, none] [] S v (F_ar_copyOfRangeByte a0 b1 b2 S v) _
  unfold F_ar_copyOfRangeByte
  refine sim_seg [(.iload_n 1, 0, 0, 0), (.iload_n 2, 0, 0, 0)] [] (q := 2) (L' := [some (.ref a0), some (.int b1), some (.int b2), none, none]) (st' := [.int b2, .int b1]) (v1 := v) (by decide +kernel) rfl trivial ?_
  refine sc_rv (pc3 := 5) (cf_S (idx := 343) [.int b1, .int b2] m_ar_checkLength ⟨by decide, by decide⟩ (List.mem_of_getElem? (i := 1192) (by decide +kernel)) rfl (Nat.le_of_ble_eq_true rfl) (by decide +kernel) (Nat.le_of_ble_eq_true rfl) rfl) (ok_ar_checkLength b1 b2 S v) rfl (fun _ => ?_)
  refine sim_seg [(.iload_n 2, 0, 0, 0), (.iload_n 1, 0, 0, 0), (.isub, 0, 0, 0), (.istore_n 3, 0, 0, 0)] [] (q := 9) (L' := [some (.ref a0), some (.int b1), some (.int b2), some (.int (b2 - b1)), none]) (st' := []) (v1 := v) (by decide +kernel) rfl trivial ?_
  refine sim_seg [(.iload_n 3, 0, 0, 0)] [] (q := 10) (L' := [some (.ref a0), some (.int b1), some (.int b2), some (.int (b2 - b1)), none]) (st' := [.int (b2 - b1)]) (v1 := v) (by decide +kernel) rfl trivial ?_
  refine sim_grd fun h1 => ?_
  refine sim_grd fun h2 => ?_
  refine sim_grd fun h3 => ?_
  refine sim_newa (ty := 1) (N := (Int32.toNatClampNeg (b2 - b1))) (pc3 := 12) (by decide) (by decide +kernel) rfl h1 rfl h2 h3 (fun S4 r5 v6 h7 h8 => ?_)
  refine sim_seg [(.astore 4, 0, 0, 0)] [] (q := 14) (L' := [some (.ref a0), some (.int b1), some (.int b2), some (.int (b2 - b1)), some (.ref r5)]) (st' := []) (v1 := v6) (by decide +kernel) rfl trivial ?_
  refine sim_grd fun h9 => ?_
  refine sim_seg [(.aload_n 0, 0, 0, 0), (.iload_n 1, 0, 0, 0), (.aload 4, 0, 0, 0), (.iconst 0, 0, 0, 0), (.aload_n 0, 0, 0, 0), (.arraylength, 0, 0, 0), (.iload_n 1, 0, 0, 0), (.isub, 0, 0, 0), (.iload_n 3, 0, 0, 0)] [] (q := 24) (L' := [some (.ref a0), some (.int b1), some (.int b2), some (.int (b2 - b1)), some (.ref r5)]) (st' := [.int (b2 - b1), .int ((nI (alen S4 a0)) - b1), .int (J 0), .ref r5, .int b1, .ref a0]) (v1 := v6) (by decide +kernel) rfl ⟨h9, trivial⟩ ?_
  refine sc_ri (pc3 := 27) (cf_S (idx := 304) [.int ((nI (alen S4 a0)) - b1), .int (b2 - b1)] m_ma_min ⟨by decide, by decide⟩ (List.mem_of_getElem? (i := 585) (by decide +kernel)) rfl (Nat.le_of_ble_eq_true rfl) (by decide +kernel) (Nat.le_of_ble_eq_true rfl) rfl) (ok_ma_min ((nI (alen S4 a0)) - b1) (b2 - b1) S4 v6) rfl (fun x10 => ?_)
  refine sim_grd fun h11 => ?_
  refine sim_grd fun h12 => ?_
  refine sim_copy (idx := 150) (ty := 1) (pc3 := 30) (by decide) (by decide +kernel) (List.mem_of_getElem? (i := 588) (by decide +kernel)) (Or.inl h11) (kin_alen h8) h12 (by decide) (Nat.le_of_ble_eq_true rfl) rfl (fun w13 => ?_)
  refine sim_seg [(.aload 4, 0, 0, 0)] [] (q := 32) (L' := [some (.ref a0), some (.int b1), some (.int b2), some (.int (b2 - b1)), some (.ref r5)]) (st' := [.ref r5]) (v1 := w13) (by decide +kernel) rfl trivial ?_
  exact sim_aretS (by decide +kernel) rfl (Or.inr ⟨_, rfl⟩) rfl
def B_ar_copyOfRange : bd := (⟨"java/util/Arrays", "copyOfRange", "([BII)[B"⟩, prog_25_method_132_code, 3, (some (.array .byte)), [], 13, 3)
theorem m_ar_copyOfRange : mS B_ar_copyOfRange 3 := ⟨⟨⟨by decide +kernel, Or.inl rfl⟩, rfl, (List.mem_of_getElem? (i := 1188) (by decide +kernel)), by decide +kernel, (List.mem_of_getElem? (i := 51) (by decide +kernel)), ⟨by decide, by decide⟩, by decide⟩, rfl, (by unfold nar; decide +kernel), (List.mem_of_getElem? (i := 1187) (by decide +kernel))⟩
noncomputable def F_ar_copyOfRange (a0 : Nat) (b1 : Int32) (b2 : Int32) (S : shp) (v : vl) : Option ((Option Nat) × shp × vl) :=
  (if b1 = (J 0) then grd (isArr (kin S a0)) <| (if b2 = (nI (alen S a0)) then grd (kin S a0 = some (2, alen S a0)) <| grd (∀ j, j < alen S a0 → fits .byte (.int (gi v a0 j)) = true) <| grd (kin S (nxt S) = none) <| lt3 (grow S (2, alen S a0) (alen S a0)) (nxt S) (cpy (zero v (nxt S)) a0 0 (nxt S) 0 (alen S a0)) fun S5 r6 v7 => some (((some r6), S5, v7)) else (F_ar_copyOfRangeByte a0 b1 b2 S v).bind fun (q10, S11, w12) => oc2 q10 none fun r14 => some (((some r14), S11, w12))) else (F_ar_copyOfRangeByte a0 b1 b2 S v).bind fun (q15, S16, w17) => oc2 q15 none fun r19 => some (((some r19), S16, w17)))
theorem ok_ar_copyOfRange (a0 : Nat) (b1 : Int32) (b2 : Int32) (S : shp) (v : vl) : SimK B_ar_copyOfRange 0 (entB (bN B_ar_copyOfRange) [.ref a0, .int b1, .int b2]) [] S v (F_ar_copyOfRange a0 b1 b2 S v) (ρgq) := by
  show SimK B_ar_copyOfRange 0 [some (.ref a0), some (.int b1), some (.int b2)] [] S v (F_ar_copyOfRange a0 b1 b2 S v) _
  unfold F_ar_copyOfRange
  refine sim_seg [(.iload_n 1, 0, 0, 0)] [] (q := 1) (L' := [some (.ref a0), some (.int b1), some (.int b2)]) (st' := [.int b1]) (v1 := v) (by decide +kernel) rfl trivial ?_
  refine sim_ne0 (o := 9) (tg := 10) (f := 4) (by decide +kernel) rfl rfl (fun _ => ?_) (fun _ => ?_)
  · refine sim_grd fun h1 => ?_
    refine sim_seg [(.iload_n 2, 0, 0, 0), (.aload_n 0, 0, 0, 0), (.arraylength, 0, 0, 0)] [] (q := 7) (L' := [some (.ref a0), some (.int b1), some (.int b2)]) (st' := [.int (nI (alen S a0)), .int b2]) (v1 := v) (by decide +kernel) rfl ⟨h1, trivial⟩ ?_
    refine sim_eq (o := 10) (tg := 17) (f := 10) (by decide +kernel) rfl rfl (fun _ => ?_) (fun _ => ?_)
    · refine sim_seg [(.aload_n 0, 0, 0, 0)] [] (q := 18) (L' := [some (.ref a0), some (.int b1), some (.int b2)]) (st' := [.ref a0]) (v1 := v) (by decide +kernel) rfl trivial ?_
      refine sim_grd fun h2 => ?_
      refine sim_grd fun h3 => ?_
      refine sim_grd fun h4 => ?_
      refine sim_clone (idx := 310) (ic := 311) (pc3 := 24) (by decide +kernel) (by decide +kernel) (List.mem_of_getElem? (i := 578) (by decide +kernel)) (List.mem_of_getElem? (i := 584) (by decide +kernel)) h2 (by decide) (Nat.le_of_ble_eq_true rfl) h3 rfl h4 (fun S5 r6 v7 h8 h9 => ?_)
      exact sim_aretS (by decide +kernel) rfl (Or.inr ⟨_, rfl⟩) rfl
    · refine sim_seg [(.aload_n 0, 0, 0, 0), (.iload_n 1, 0, 0, 0), (.iload_n 2, 0, 0, 0)] [] (q := 13) (L' := [some (.ref a0), some (.int b1), some (.int b2)]) (st' := [.int b2, .int b1, .ref a0]) (v1 := v) (by decide +kernel) rfl trivial ?_
      refine sc_gq (pc3 := 16) (cf_S (idx := 339) [.ref a0, .int b1, .int b2] m_ar_copyOfRangeByte ⟨by decide, by decide⟩ (List.mem_of_getElem? (i := 1189) (by decide +kernel)) rfl (Nat.le_of_ble_eq_true rfl) (by decide +kernel) (Nat.le_of_ble_eq_true rfl) rfl) (ok_ar_copyOfRangeByte a0 b1 b2 S v) rfl (fun q10 S11 w12 h13 => ?_)
      refine sim_oc2 (fun _ => sim_none) (fun r14 _ => ?_)
      exact sim_aretS (by decide +kernel) rfl (Or.inr ⟨_, rfl⟩) rfl
  · refine sim_seg [(.aload_n 0, 0, 0, 0), (.iload_n 1, 0, 0, 0), (.iload_n 2, 0, 0, 0)] [] (q := 13) (L' := [some (.ref a0), some (.int b1), some (.int b2)]) (st' := [.int b2, .int b1, .ref a0]) (v1 := v) (by decide +kernel) rfl trivial ?_
    refine sc_gq (pc3 := 16) (cf_S (idx := 339) [.ref a0, .int b1, .int b2] m_ar_copyOfRangeByte ⟨by decide, by decide⟩ (List.mem_of_getElem? (i := 1189) (by decide +kernel)) rfl (Nat.le_of_ble_eq_true rfl) (by decide +kernel) (Nat.le_of_ble_eq_true rfl) rfl) (ok_ar_copyOfRangeByte a0 b1 b2 S v) rfl (fun q15 S16 w17 h18 => ?_)
    refine sim_oc2 (fun _ => sim_none) (fun r19 _ => ?_)
    exact sim_aretS (by decide +kernel) rfl (Or.inr ⟨_, rfl⟩) rfl
def B_js_init2 : bd := (⟨"java/lang/String", "<init>", "(Ljava/lang/AbstractStringBuilder;Ljava/lang/Void;)V"⟩, prog_19_method_150_code, 5, none, [], 9, 4)
theorem m_js_init2 : mI B_js_init2 2 := ⟨⟨⟨by decide +kernel, Or.inl rfl⟩, rfl, (List.mem_of_getElem? (i := 1170) (by decide +kernel)), by decide +kernel, (List.mem_of_getElem? (i := 47) (by decide +kernel)), ⟨by decide, by decide⟩, by decide⟩, rfl, rfl, (by unfold nar; decide +kernel), (List.mem_of_getElem? (i := 1169) (by decide +kernel)), rfl⟩
noncomputable def F_js_init2 (a0 : Nat) (a1 : Nat) (S : shp) (v : vl) : Option (shp × vl) :=
  grd (kin S a1 = some (0, 7)) <| (F_ab_getValue a1 S v).bind fun q2 => oc2 q2 none fun r3 => (F_sb_length a1 S v).bind fun x4 => (F_ab_isLatin1 a1 S v).bind fun x5 => (if x5 = (J 0) then (if (gi v a1 2) = (J 0) then grd (kin S a0 = some (0, 8)) <| lt (si v a0 1 (J 1)) fun w7 => (F_ar_copyOfRange r3 (J 0) (x4 <<< ((J 1) &&& 31)) S w7).bind fun (q8, S9, w10) => oc2 q8 none fun r12 => lt (sr S9 a0 0 (some r12)) fun S13 => some ((S13, w10)) else none) else grd (kin S a0 = some (0, 8)) <| lt (si v a0 1 (J 0)) fun w16 => (F_ar_copyOfRange r3 (J 0) x4 S w16).bind fun (q17, S18, w19) => oc2 q17 none fun r21 => lt (sr S18 a0 0 (some r21)) fun S22 => some ((S22, w19)))
theorem ok_js_init2 (a0 : Nat) (a1 : Nat) (oo2 : (Option Nat)) (S : shp) (v : vl) : SimK B_js_init2 0 (entB (bN B_js_init2) [.ref a0, .ref a1, va_rf oo2]) [] S v (F_js_init2 a0 a1 S v) (ρgv) := by
  have eo : entB (bN B_js_init2) [.ref a0, .ref a1, va_rf oo2] = [some (.ref a0), some (.ref a1), some (va_rf oo2), none, none] := by cases oo2 <;> rfl
  rw [eo]
  show SimK B_js_init2 0 [some (.ref a0), some (.ref a1), some (va_rf oo2), none, none] [] S v (F_js_init2 a0 a1 S v) _
  unfold F_js_init2
  refine sim_wk (L0 := [some (.ref a0), some (.ref a1), none, none, none]) ⟨rfl, rfl, trivial⟩ ?_
  refine sim_seg [(.aload_n 0, 0, 0, 0)] [] (q := 1) (L' := [some (.ref a0), some (.ref a1), none, none, none]) (st' := [.ref a0]) (v1 := v) (by decide +kernel) rfl trivial ?_
  refine sim_oinit (idx := 1) (pc3 := 4) (by decide +kernel) (List.mem_of_getElem? (i := 1171) (by decide +kernel)) (by decide) (Nat.le_of_ble_eq_true rfl) rfl ?_
  refine sim_seg [(.aload_n 1, 0, 0, 0)] [] (q := 5) (L' := [some (.ref a0), some (.ref a1), none, none, none]) (st' := [.ref a1]) (v1 := v) (by decide +kernel) rfl trivial ?_
  refine sim_grd fun h1 => ?_
  refine sc_rq (pc3 := 8) (cf_U (idx := 552) [] m_ab_getValue ⟨by decide, by decide⟩ (List.mem_of_getElem? (i := 1172) (by decide +kernel)) rfl (Nat.le_of_ble_eq_true rfl) h1 (by decide +kernel) (Nat.le_of_ble_eq_true rfl) rfl) (ok_ab_getValue a1 S v) rfl (fun q2 => ?_)
  refine sim_oc2 (fun _ => sim_none) (fun r3 _ => ?_)
  refine sim_seg [(.astore_n 3, 0, 0, 0)] [] (q := 9) (L' := [some (.ref a0), some (.ref a1), none, some (.ref r3), none]) (st' := []) (v1 := v) (by decide +kernel) rfl trivial ?_
  refine sim_seg [(.aload_n 1, 0, 0, 0)] [] (q := 10) (L' := [some (.ref a0), some (.ref a1), none, some (.ref r3), none]) (st' := [.ref a1]) (v1 := v) (by decide +kernel) rfl trivial ?_
  refine sc_ri (pc3 := 13) (cf_O (idx := 549) [] m_sb_length ⟨by decide, by decide⟩ (List.mem_of_getElem? (i := 1177) (by decide +kernel)) rfl (Nat.le_of_ble_eq_true rfl) h1 (by decide +kernel) (Nat.le_of_ble_eq_true rfl) rfl) (ok_sb_length a1 S v) rfl (fun x4 => ?_)
  refine sim_seg [(.istore 4, 0, 0, 0)] [] (q := 15) (L' := [some (.ref a0), some (.ref a1), none, some (.ref r3), some (.int x4)]) (st' := []) (v1 := v) (by decide +kernel) rfl trivial ?_
  refine sim_seg [(.aload_n 1, 0, 0, 0)] [] (q := 16) (L' := [some (.ref a0), some (.ref a1), none, some (.ref r3), some (.int x4)]) (st' := [.ref a1]) (v1 := v) (by decide +kernel) rfl trivial ?_
  refine sc_ri (pc3 := 19) (cf_U (idx := 1047) [] m_ab_isLatin1 ⟨by decide, by decide⟩ (List.mem_of_getElem? (i := 1185) (by decide +kernel)) rfl (Nat.le_of_ble_eq_true rfl) h1 (by decide +kernel) (Nat.le_of_ble_eq_true rfl) rfl) (ok_ab_isLatin1 a1 S v) rfl (fun x5 => ?_)
  refine sim_eq0 (o := 22) (tg := 41) (f := 22) (by decide +kernel) rfl rfl (fun _ => ?_) (fun _ => ?_)
  · refine sim_gets (idx := 38) (m := 1) (pc3 := 44) (by decide) (by decide +kernel) (show Cond.fieldLink (owns (bO B_js_init2)) 38 "java/lang/String" "COMPACT_STRINGS" "Z" ∈ tb2 from (List.mem_of_getElem? (i := 397) (by decide +kernel))) rfl ?_
    show SimK _ _ _ ([.int (J 1)]) _ _ _ _
    refine sim_ifF (c := (J 1) = (J 0)) (by decide) (sim_eq0 (o := 35) (tg := 79) (f := 47) (by decide +kernel) rfl rfl (fun _ => sim_none) (fun _ => ?_))
    refine sim_seg [(.aload_n 1, 0, 0, 0), (.getfield 1048, 7, 2, 0)] [] (q := 51) (L' := [some (.ref a0), some (.ref a1), none, some (.ref r3), some (.int x4)]) (st' := [.int (gi v a1 2)]) (v1 := v) (by decide +kernel) rfl ⟨h1, trivial⟩ ?_
    refine sim_eq0 (o := 28) (tg := 79) (f := 54) (by decide +kernel) rfl rfl (fun _ => ?_) (fun _ => ?_)
    · refine sim_seg [(.aload_n 0, 0, 0, 0), (.iconst 1, 0, 0, 1)] [] (q := 81) (L' := [some (.ref a0), some (.ref a1), none, some (.ref r3), some (.int x4)]) (st' := [.int (J 1), .ref a0]) (v1 := v) (by decide +kernel) rfl trivial ?_
      refine sim_grd fun h6 => ?_
      refine sim_puti (idx := 15) (ci := 8) (m := 1) (pc3 := 84) (by decide +kernel) (by decide) (Or.inr ⟨rfl, rfl⟩) h6 rfl rfl (by decide) rfl (fun w7 => ?_)
      refine sim_seg [(.aload_n 0, 0, 0, 0), (.aload_n 3, 0, 0, 0), (.iconst 0, 0, 0, 0), (.iload 4, 0, 0, 0), (.iconst 1, 0, 0, 1), (.ishl, 0, 0, 0)] [] (q := 91) (L' := [some (.ref a0), some (.ref a1), none, some (.ref r3), some (.int x4)]) (st' := [.int (x4 <<< ((J 1) &&& 31)), .int (J 0), .ref r3, .ref a0]) (v1 := w7) (by decide +kernel) rfl trivial ?_
      refine sc_gq (pc3 := 94) (cf_S (idx := 54) [.ref r3, .int (J 0), .int (x4 <<< ((J 1) &&& 31))] m_ar_copyOfRange ⟨by decide, by decide⟩ (List.mem_of_getElem? (i := 1186) (by decide +kernel)) rfl (Nat.le_of_ble_eq_true rfl) (by decide +kernel) (Nat.le_of_ble_eq_true rfl) rfl) (ok_ar_copyOfRange r3 (J 0) (x4 <<< ((J 1) &&& 31)) S w7) rfl (fun q8 S9 w10 h11 => ?_)
      refine sim_oc2 (fun _ => sim_none) (fun r12 _ => ?_)
      refine sim_putr (idx := 9) (ci := 8) (m := 0) (pc3 := 97) (by decide +kernel) (by decide) (Or.inr ⟨rfl, rfl⟩) (h11.2.2.2.2 _ _ h6) rfl rfl (fun S13 h14 => ?_)
      exact sim_vret (by decide +kernel) rfl rfl
    · exact sim_none
  · refine sim_seg [(.aload_n 0, 0, 0, 0), (.iconst 0, 0, 0, 0)] [] (q := 24) (L' := [some (.ref a0), some (.ref a1), none, some (.ref r3), some (.int x4)]) (st' := [.int (J 0), .ref a0]) (v1 := v) (by decide +kernel) rfl trivial ?_
    refine sim_grd fun h15 => ?_
    refine sim_puti (idx := 15) (ci := 8) (m := 1) (pc3 := 27) (by decide +kernel) (by decide) (Or.inr ⟨rfl, rfl⟩) h15 rfl rfl (by decide) rfl (fun w16 => ?_)
    refine sim_seg [(.aload_n 0, 0, 0, 0), (.aload_n 3, 0, 0, 0), (.iconst 0, 0, 0, 0), (.iload 4, 0, 0, 0)] [] (q := 32) (L' := [some (.ref a0), some (.ref a1), none, some (.ref r3), some (.int x4)]) (st' := [.int x4, .int (J 0), .ref r3, .ref a0]) (v1 := w16) (by decide +kernel) rfl trivial ?_
    refine sc_gq (pc3 := 35) (cf_S (idx := 54) [.ref r3, .int (J 0), .int x4] m_ar_copyOfRange ⟨by decide, by decide⟩ (List.mem_of_getElem? (i := 1186) (by decide +kernel)) rfl (Nat.le_of_ble_eq_true rfl) (by decide +kernel) (Nat.le_of_ble_eq_true rfl) rfl) (ok_ar_copyOfRange r3 (J 0) x4 S w16) rfl (fun q17 S18 w19 h20 => ?_)
    refine sim_oc2 (fun _ => sim_none) (fun r21 _ => ?_)
    refine sim_putr (idx := 9) (ci := 8) (m := 0) (pc3 := 38) (by decide +kernel) (by decide) (Or.inr ⟨rfl, rfl⟩) (h20.2.2.2.2 _ _ h15) rfl rfl (fun S22 h23 => ?_)
    refine sim_seg [(.goto 59, 0, 0, 0)] [] (q := 97) (L' := [some (.ref a0), some (.ref a1), none, some (.ref r3), some (.int x4)]) (st' := []) (v1 := w19) (by decide +kernel) rfl trivial ?_
    exact sim_vret (by decide +kernel) rfl rfl
