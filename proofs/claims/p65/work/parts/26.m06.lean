/-! Methods: js_init, sb_toString. -/
def B_js_init : bd := (⟨"java/lang/String", "<init>", "(Ljava/lang/StringBuilder;)V"⟩, prog_19_method_53_code, 2, none, [], 9, 5)
theorem m_js_init : mI B_js_init 1 := ⟨⟨⟨by decide +kernel, Or.inl rfl⟩, rfl, (List.mem_of_getElem? (i := 1167) (by decide +kernel)), by decide +kernel, (List.mem_of_getElem? (i := 47) (by decide +kernel)), ⟨by decide, by decide⟩, by decide⟩, rfl, rfl, (by unfold nar; decide +kernel), (List.mem_of_getElem? (i := 1166) (by decide +kernel)), rfl⟩
noncomputable def F_js_init (a0 : Nat) (a1 : Nat) (S : shp) (v : vl) : Option (shp × vl) :=
  (F_js_init2 a0 a1 S v).bind fun (S1, w2) => some ((S1, w2))
theorem ok_js_init (a0 : Nat) (a1 : Nat) (S : shp) (v : vl) : SimK B_js_init 0 (entB (bN B_js_init) [.ref a0, .ref a1]) [] S v (F_js_init a0 a1 S v) (ρgv) := by
  show SimK B_js_init 0 [some (.ref a0), some (.ref a1)] [] S v (F_js_init a0 a1 S v) _
  unfold F_js_init
  refine sim_seg [(.aload_n 0, 0, 0, 0), (.aload_n 1, 0, 0, 0), (.aconst_null, 0, 0, 0)] [] (q := 3) (L' := [some (.ref a0), some (.ref a1)]) (st' := [.null, .ref a1, .ref a0]) (v1 := v) (by decide +kernel) rfl trivial ?_
  refine sc_gv (pc3 := 6) (cf_I (idx := 489) [.ref a1, .null] m_js_init2 ⟨by decide, by decide⟩ (List.mem_of_getElem? (i := 1168) (by decide +kernel)) rfl (Nat.le_of_ble_eq_true rfl) (by decide +kernel) (Nat.le_of_ble_eq_true rfl) rfl) (ok_js_init2 a0 a1 none S v) rfl (fun S1 w2 h3 => ?_)
  exact sim_vret (by decide +kernel) rfl rfl
def B_sb_toString : bd := (⟨"java/lang/StringBuilder", "toString", "()Ljava/lang/String;"⟩, prog_20_method_42_code, 1, (some (.object "java/lang/String")), [], 7, 6)
theorem m_sb_toString : mV B_sb_toString 7 0 := ⟨⟨⟨by decide +kernel, Or.inl rfl⟩, rfl, (List.mem_of_getElem? (i := 1162) (by decide +kernel)), by decide +kernel, (List.mem_of_getElem? (i := 46) (by decide +kernel)), ⟨by decide, by decide⟩, by decide⟩, rfl, (by unfold nar; decide +kernel), (List.mem_of_getElem? (i := 1160) (by decide +kernel)), rfl, (List.mem_of_getElem? (i := 1161) (by decide +kernel))⟩
noncomputable def F_sb_toString (a0 : Nat) (S : shp) (v : vl) : Option ((Option Nat) × shp × vl) :=
  grd (kin S (nxt S) = none) <| lt3 (grow S (0, 8) (fTN 8).2.1) (nxt S) (zero v (nxt S)) fun S2 r3 v4 => (F_js_init r3 a0 S2 v4).bind fun (S7, w8) => some (((some r3), S7, w8))
theorem ok_sb_toString (a0 : Nat) (S : shp) (v : vl) : SimK B_sb_toString 0 (entB (bN B_sb_toString) [.ref a0]) [] S v (F_sb_toString a0 S v) (ρgq) := by
  show SimK B_sb_toString 0 [some (.ref a0)] [] S v (F_sb_toString a0 S v) _
  unfold F_sb_toString
  refine sim_grd fun h1 => ?_
  refine sim_new (idx := 18) (ci := 8) (pc3 := 3) (by decide) (by decide +kernel) (List.mem_of_getElem? (i := 1163) (by decide +kernel)) (List.mem_of_getElem? (i := 1164) (by decide +kernel)) (List.mem_of_getElem? (i := 47) (by decide +kernel)) rfl h1 (fun S2 r3 v4 h5 h6 => ?_)
  refine sim_seg [(.dup, 0, 0, 0), (.aload_n 0, 0, 0, 0)] [] (q := 5) (L' := [some (.ref a0)]) (st' := [.ref a0, .ref r3, .ref r3]) (v1 := v4) (by decide +kernel) rfl trivial ?_
  refine sc_gv (pc3 := 8) (cf_I (idx := 137) [.ref a0] m_js_init ⟨by decide, by decide⟩ (List.mem_of_getElem? (i := 1165) (by decide +kernel)) rfl (Nat.le_of_ble_eq_true rfl) (by decide +kernel) (Nat.le_of_ble_eq_true rfl) rfl) (ok_js_init r3 a0 S2 v4) rfl (fun S7 w8 h9 => ?_)
  exact sim_aretS (by decide +kernel) rfl (Or.inl ⟨_, rfl⟩) rfl
