/-! Methods: lw_law. -/
def B_lw_law : bd := (⟨"GateCounterLaw", "law", "([I)Z"⟩, code, 4, (some .boolean), [], 6, 12)
noncomputable def Y_lw_law_51 (N : Nat)  (i51 : shp → vl → Nat → Nat → Nat → Int32 → Option (Int32 × shp × vl))  (S : shp) (v : vl) (p0 : Nat) (p1 : Nat) (p2 : Nat) (p3 : Int32) : Option (Int32 × shp × vl) :=
  (if p3 < (J 24) then (F_lw_cell p0 ((J 6) + p3) S v).bind fun x36 => grd (kin S p1 = some (0, 6)) <| (F_lw_act N p1 p2 x36 S v).bind fun (x38, S39, w40) => (if x38 = (J 0) then some (((J 0), S39, w40)) else (F_lw_isSame p1 p2 S39 w40).bind fun x42 => (if x42 = (J 0) then some (((J 0), S39, w40)) else i51 S39 w40 p0 p1 p2 (p3 + (J 1)))) else some (((J 1), S, v)))
noncomputable def K_lw_law_51 (N : Nat)  (n : Nat)  : shp → vl → Nat → Nat → Nat → Int32 → Option (Int32 × shp × vl) :=
  Nat.rec (motive := fun _ => shp → vl → Nat → Nat → Nat → Int32 → Option (Int32 × shp × vl)) (fun _ _ _ _ _ _ => none) (fun _ i => Y_lw_law_51 N  i ) n
theorem sY_lw_law_51 (N : Nat)  (i51 : shp → vl → Nat → Nat → Nat → Int32 → Option (Int32 × shp × vl))   (j51 : ∀ (S : shp) (v : vl) (p0 : Nat) (p1 : Nat) (p2 : Nat) (p3 : Int32), SimK B_lw_law 51 [some (.ref p0), some (.ref p1), some (.ref p2), some (.int p3)] [] S v (i51 S v p0 p1 p2 p3) (ρgi)) (S : shp) (v : vl) (p0 : Nat) (p1 : Nat) (p2 : Nat) (p3 : Int32) : SimK B_lw_law 51 [some (.ref p0), some (.ref p1), some (.ref p2), some (.int p3)] [] S v (Y_lw_law_51 N  i51  S v p0 p1 p2 p3) (ρgi) := by
  unfold Y_lw_law_51
  refine sim_seg [(.iload_n 3, 0, 0, 0), (.bipush 24, 0, 0, 24)] [] (q := 54) (L' := [some (.ref p0), some (.ref p1), some (.ref p2), some (.int p3)]) (st' := [.int (J 24), .int p3]) (v1 := v) (by decide +kernel) rfl trivial ?_
  refine sim_ge (o := 35) (tg := 89) (f := 57) (by decide +kernel) rfl rfl (fun _ => ?_) (fun _ => ?_)
  · refine sim_seg [(.aload_n 1, 0, 0, 0), (.aload_n 2, 0, 0, 0), (.aload_n 0, 0, 0, 0), (.bipush 6, 0, 0, 6), (.iload_n 3, 0, 0, 0), (.iadd, 0, 0, 0)] [] (q := 64) (L' := [some (.ref p0), some (.ref p1), some (.ref p2), some (.int p3)]) (st' := [.int ((J 6) + p3), .ref p0, .ref p2, .ref p1]) (v1 := v) (by decide +kernel) rfl trivial ?_
    refine sc_ri (pc3 := 67) (cf_S (idx := 43) [.ref p0, .int ((J 6) + p3)] m_lw_cell ⟨by decide, by decide⟩ (List.mem_of_getElem? (i := 513) (by decide +kernel)) rfl (Nat.le_of_ble_eq_true rfl) (by decide +kernel) (Nat.le_of_ble_eq_true rfl) rfl) (ok_lw_cell p0 ((J 6) + p3) S v) rfl (fun x36 => ?_)
    refine sim_grd fun h37 => ?_
    refine sc_gi (pc3 := 70) (cf_V (idx := 250) (ci := 6) [.ref p2, .int x36] m_lw_act (by decide) ⟨by decide, by decide⟩ (List.mem_of_getElem? (i := 872) (by decide +kernel)) rfl (Nat.le_of_ble_eq_true rfl) h37 (by decide +kernel) (Nat.le_of_ble_eq_true rfl) rfl) (ok_lw_act N p1 p2 x36 S v) rfl (fun x38 S39 w40 h41 => ?_)
    refine sim_eq0 (o := 11) (tg := 81) (f := 73) (by decide +kernel) rfl rfl (fun _ => ?_) (fun _ => ?_)
    · refine sim_seg [(.iconst 0, 0, 0, 0)] [] (q := 82) (L' := [some (.ref p0), some (.ref p1), some (.ref p2), some (.int p3)]) (st' := [.int (J 0)]) (v1 := w40) (by decide +kernel) rfl trivial ?_
      exact sim_iret (by decide +kernel) rfl (by decide) rfl
    · refine sim_seg [(.aload_n 1, 0, 0, 0), (.aload_n 2, 0, 0, 0)] [] (q := 75) (L' := [some (.ref p0), some (.ref p1), some (.ref p2), some (.int p3)]) (st' := [.ref p2, .ref p1]) (v1 := w40) (by decide +kernel) rfl trivial ?_
      refine sc_ri (pc3 := 78) (cf_V (idx := 247) (ci := 6) [.ref p2] m_lw_isSame (by decide) ⟨by decide, by decide⟩ (List.mem_of_getElem? (i := 764) (by decide +kernel)) rfl (Nat.le_of_ble_eq_true rfl) (h41.2.2.2.2 _ _ h37) (by decide +kernel) (Nat.le_of_ble_eq_true rfl) rfl) (ok_lw_isSame p1 p2 S39 w40) rfl (fun x42 => ?_)
      refine sim_ne0 (o := 5) (tg := 83) (f := 81) (by decide +kernel) rfl rfl (fun _ => ?_) (fun _ => ?_)
      · refine sim_seg [(.iconst 0, 0, 0, 0)] [] (q := 82) (L' := [some (.ref p0), some (.ref p1), some (.ref p2), some (.int p3)]) (st' := [.int (J 0)]) (v1 := w40) (by decide +kernel) rfl trivial ?_
        exact sim_iret (by decide +kernel) rfl (by decide) rfl
      · refine sim_seg [(.iinc 3 1, 0, 0, 1)] [] (q := 86) (L' := [some (.ref p0), some (.ref p1), some (.ref p2), some (.int (p3 + (J 1)))]) (st' := []) (v1 := w40) (by decide +kernel) rfl trivial ?_
        refine sim_seg [(.goto (-35), 0, 0, 0)] [] (q := 51) (L' := [some (.ref p0), some (.ref p1), some (.ref p2), some (.int (p3 + (J 1)))]) (st' := []) (v1 := w40) (by decide +kernel) rfl trivial ?_
        exact j51 S39 w40 p0 p1 p2 (p3 + (J 1))
  · refine sim_seg [(.iconst 1, 0, 0, 1)] [] (q := 90) (L' := [some (.ref p0), some (.ref p1), some (.ref p2), some (.int p3)]) (st' := [.int (J 1)]) (v1 := v) (by decide +kernel) rfl trivial ?_
    exact sim_iret (by decide +kernel) rfl (by decide) rfl
theorem sR_lw_law_51 (N : Nat)    (n : Nat) : ∀ (S : shp) (v : vl) (p0 : Nat) (p1 : Nat) (p2 : Nat) (p3 : Int32), SimK B_lw_law 51 [some (.ref p0), some (.ref p1), some (.ref p2), some (.int p3)] [] S v (K_lw_law_51 N  n  S v p0 p1 p2 p3) (ρgi) := by
  induction n with
  | zero => intro S v p0 p1 p2 p3; exact sim_none
  | succ k ih => intro S v p0 p1 p2 p3; exact sY_lw_law_51 N   _   ih S v p0 p1 p2 p3
theorem sK_lw_law_51 (N : Nat)   (n : Nat) (S : shp) (v : vl) (p0 : Nat) (p1 : Nat) (p2 : Nat) (p3 : Int32) : SimK B_lw_law 51 [some (.ref p0), some (.ref p1), some (.ref p2), some (.int p3)] [] S v (K_lw_law_51 N  n  S v p0 p1 p2 p3) (ρgi) := sR_lw_law_51 N    n  S v p0 p1 p2 p3
noncomputable def F_lw_law (N : Nat) (a0 : Nat) (S : shp) (v : vl) : Option (Int32 × shp × vl) :=
  grd (kin S (nxt S) = none) <| lt3 (grow S (0, 6) (fTN 6).2.1) (nxt S) (zero v (nxt S)) fun S2 r3 v4 => (F_lw_init N r3 a0 S2 v4).bind fun (S7, w8) => grd (kin S7 (nxt S7) = none) <| lt3 (grow S7 (0, 5) (fTN 5).2.1) (nxt S7) (zero w8 (nxt S7)) fun S11 r12 v13 => (F_gc_init N r12 S11 v13).bind fun (S16, w17) => grd (kin S16 r3 = some (0, 6)) <| (gr S16 r3 24).bind fun r20 => grd (kin S16 r20 = some (0, 7)) <| (F_sb_toString r20 S16 w17).bind fun (q23, S24, w25) => oc2 q23 none fun r27 => (F_lw_told N r12 r27 S24 w25).bind fun (S28, w29) => (F_gc_loadCounter N r12 S28 w29).bind fun (x31, S32, w33) => (if x31 = (gi w33 r3 1) then (F_lw_isSame r3 r12 S32 w33).bind fun x35 => (if x35 = (J 0) then some (((J 0), S32, w33)) else K_lw_law_51 N  N S32 w33 a0 r3 r12 (J 0)) else some (((J 0), S32, w33)))
theorem ok_lw_law (N : Nat) (a0 : Nat) (S : shp) (v : vl) : SimK B_lw_law 0 (entB (bN B_lw_law) [.ref a0]) [] S v (F_lw_law N a0 S v) (ρgi) := by
  show SimK B_lw_law 0 [some (.ref a0), none, none, none] [] S v (F_lw_law N a0 S v) _
  unfold F_lw_law
  refine sim_grd fun h1 => ?_
  refine sim_new (idx := 28) (ci := 6) (pc3 := 3) (by decide) (by decide +kernel) (List.mem_of_getElem? (i := 533) (by decide +kernel)) (List.mem_of_getElem? (i := 534) (by decide +kernel)) (List.mem_of_getElem? (i := 44) (by decide +kernel)) rfl h1 (fun S2 r3 v4 h5 h6 => ?_)
  refine sim_seg [(.dup, 0, 0, 0), (.aload_n 0, 0, 0, 0)] [] (q := 5) (L' := [some (.ref a0), none, none, none]) (st' := [.ref a0, .ref r3, .ref r3]) (v1 := v4) (by decide +kernel) rfl trivial ?_
  refine sc_gv (pc3 := 8) (cf_I (idx := 232) [.ref a0] m_lw_init ⟨by decide, by decide⟩ (List.mem_of_getElem? (i := 535) (by decide +kernel)) rfl (Nat.le_of_ble_eq_true rfl) (by decide +kernel) (Nat.le_of_ble_eq_true rfl) rfl) (ok_lw_init N r3 a0 S2 v4) rfl (fun S7 w8 h9 => ?_)
  refine sim_seg [(.astore_n 1, 0, 0, 0)] [] (q := 9) (L' := [some (.ref a0), some (.ref r3), none, none]) (st' := []) (v1 := w8) (by decide +kernel) rfl trivial ?_
  refine sim_grd fun h10 => ?_
  refine sim_new (idx := 12) (ci := 5) (pc3 := 12) (by decide) (by decide +kernel) (List.mem_of_getElem? (i := 69) (by decide +kernel)) (List.mem_of_getElem? (i := 70) (by decide +kernel)) (List.mem_of_getElem? (i := 57) (by decide +kernel)) rfl h10 (fun S11 r12 v13 h14 h15 => ?_)
  refine sim_seg [(.dup, 0, 0, 0)] [] (q := 13) (L' := [some (.ref a0), some (.ref r3), none, none]) (st' := [.ref r12, .ref r12]) (v1 := v13) (by decide +kernel) rfl trivial ?_
  refine sc_gv (pc3 := 16) (cf_I (idx := 235) [] m_gc_init ⟨by decide, by decide⟩ (List.mem_of_getElem? (i := 71) (by decide +kernel)) rfl (Nat.le_of_ble_eq_true rfl) (by decide +kernel) (Nat.le_of_ble_eq_true rfl) rfl) (ok_gc_init N r12 S11 v13) rfl (fun S16 w17 h18 => ?_)
  refine sim_seg [(.astore_n 2, 0, 0, 0)] [] (q := 17) (L' := [some (.ref a0), some (.ref r3), some (.ref r12), none]) (st' := []) (v1 := w17) (by decide +kernel) rfl trivial ?_
  refine sim_grd fun h19 => ?_
  refine sim_bind fun r20 h21 => ?_
  refine sim_seg [(.aload_n 2, 0, 0, 0), (.aload_n 1, 0, 0, 0), (.getfield 39, 6, 24, 0)] [r20] (q := 22) (L' := [some (.ref a0), some (.ref r3), some (.ref r12), none]) (st' := [.ref r20, .ref r12]) (v1 := w17) (by decide +kernel) rfl ⟨⟨h19, h21⟩, trivial⟩ ?_
  refine sim_grd fun h22 => ?_
  refine sc_gq (pc3 := 25) (cf_V (idx := 236) (ci := 7) [] m_sb_toString (by decide) ⟨by decide, by decide⟩ (List.mem_of_getElem? (i := 1159) (by decide +kernel)) rfl (Nat.le_of_ble_eq_true rfl) h22 (by decide +kernel) (Nat.le_of_ble_eq_true rfl) rfl) (ok_sb_toString r20 S16 w17) rfl (fun q23 S24 w25 h26 => ?_)
  refine sim_oc2 (fun _ => sim_none) (fun r27 _ => ?_)
  refine sc_gv (pc3 := 28) (cf_S (idx := 240) [.ref r12, .ref r27] m_lw_told ⟨by decide, by decide⟩ (List.mem_of_getElem? (i := 516) (by decide +kernel)) rfl (Nat.le_of_ble_eq_true rfl) (by decide +kernel) (Nat.le_of_ble_eq_true rfl) rfl) (ok_lw_told N r12 r27 S24 w25) rfl (fun S28 w29 h30 => ?_)
  refine sim_seg [(.aload_n 2, 0, 0, 0)] [] (q := 29) (L' := [some (.ref a0), some (.ref r3), some (.ref r12), none]) (st' := [.ref r12]) (v1 := w29) (by decide +kernel) rfl trivial ?_
  refine sc_gi (pc3 := 32) (cf_V (idx := 244) (ci := 5) [] m_gc_loadCounter (by decide) ⟨by decide, by decide⟩ (List.mem_of_getElem? (i := 357) (by decide +kernel)) rfl (Nat.le_of_ble_eq_true rfl) (h30.2.2.2.2 _ _ (h26.2.2.2.2 _ _ (h18.2.2.2.2 _ _ h15))) (by decide +kernel) (Nat.le_of_ble_eq_true rfl) rfl) (ok_gc_loadCounter N r12 S28 w29) rfl (fun x31 S32 w33 h34 => ?_)
  refine sim_seg [(.aload_n 1, 0, 0, 0), (.getfield 70, 6, 1, 0)] [] (q := 36) (L' := [some (.ref a0), some (.ref r3), some (.ref r12), none]) (st' := [.int (gi w33 r3 1), .int x31]) (v1 := w33) (by decide +kernel) rfl ⟨(h34.2.2.2.2 _ _ (h30.2.2.2.2 _ _ (h26.2.2.2.2 _ _ h19))), trivial⟩ ?_
  refine sim_ne (o := 11) (tg := 47) (f := 39) (by decide +kernel) rfl rfl (fun _ => ?_) (fun _ => ?_)
  · refine sim_seg [(.aload_n 1, 0, 0, 0), (.aload_n 2, 0, 0, 0)] [] (q := 41) (L' := [some (.ref a0), some (.ref r3), some (.ref r12), none]) (st' := [.ref r12, .ref r3]) (v1 := w33) (by decide +kernel) rfl trivial ?_
    refine sc_ri (pc3 := 44) (cf_V (idx := 247) (ci := 6) [.ref r12] m_lw_isSame (by decide) ⟨by decide, by decide⟩ (List.mem_of_getElem? (i := 764) (by decide +kernel)) rfl (Nat.le_of_ble_eq_true rfl) (h34.2.2.2.2 _ _ (h30.2.2.2.2 _ _ (h26.2.2.2.2 _ _ h19))) (by decide +kernel) (Nat.le_of_ble_eq_true rfl) rfl) (ok_lw_isSame r3 r12 S32 w33) rfl (fun x35 => ?_)
    refine sim_ne0 (o := 5) (tg := 49) (f := 47) (by decide +kernel) rfl rfl (fun _ => ?_) (fun _ => ?_)
    · refine sim_seg [(.iconst 0, 0, 0, 0)] [] (q := 48) (L' := [some (.ref a0), some (.ref r3), some (.ref r12), none]) (st' := [.int (J 0)]) (v1 := w33) (by decide +kernel) rfl trivial ?_
      exact sim_iret (by decide +kernel) rfl (by decide) rfl
    · refine sim_seg [(.iconst 0, 0, 0, 0), (.istore_n 3, 0, 0, 0)] [] (q := 51) (L' := [some (.ref a0), some (.ref r3), some (.ref r12), some (.int (J 0))]) (st' := []) (v1 := w33) (by decide +kernel) rfl trivial ?_
      exact sK_lw_law_51 N N S32 w33 a0 r3 r12 (J 0)
  · refine sim_seg [(.iconst 0, 0, 0, 0)] [] (q := 48) (L' := [some (.ref a0), some (.ref r3), some (.ref r12), none]) (st' := [.int (J 0)]) (v1 := w33) (by decide +kernel) rfl trivial ?_
    exact sim_iret (by decide +kernel) rfl (by decide) rfl
