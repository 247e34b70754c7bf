/-! The law's text is read: its statements. -/
section LAWSTMT
variable {S : shp} {v : vl} {a N n : Nat} {L sp wd rest : List Int} {z : Nat → Int} {x y A P G : Int} {s : sta}
theorem hd_sp {X : List Int} {κ : Int} (h : κ ≠ 5) : ([32] ++ X = [] ∨ kdZ (asL ([32] ++ X) 0) ≠ κ) := Or.inr (by
  show kdZ 32 ≠ κ
  rw [show kdZ 32 = 5 from rfl]
  exact Ne.symm h)
theorem hd_sc {X : List Int} {κ : Int} (h : κ ≠ 3) : ([59] ++ X = [] ∨ kdZ (asL ([59] ++ X) 0) ≠ κ) := Or.inr (by
  show kdZ 59 ≠ κ
  rw [show kdZ 59 = 3 from rfl]
  exact Ne.symm h)
theorem cw_ne {j : Nat} : cwL j ≠ [] := by
  unfold cwL
  repeat' split
  all_goals exact List.cons_ne_nil _ _
/-- the clock's statement -/
theorem ld_clock {st d ag q1 q2 q3 : Int} (hN : 1000 ≤ N) (hL : gcL S a) (hC : CT S v a L z) (hz : zI L.length z) (hA : AT L z ([32] ++ (numL st ++ ([32] ++ (cwL 11 ++ ([32] ++ (numL d ++ ([32] ++ (cwL 12 ++ ([32] ++ (numL ag ++ ([59] ++ rest)))))))))))) (hD : stD S v (a + 3) (s00 q1 q2 q3)) (hst : 10 ≤ st ∧ st ≤ 999) (hd : -99 ≤ d ∧ d ≤ 99) (hag : -1 ≤ ag ∧ ag ≤ 1) :
    ∃ v' z', F_tx_readClock N (a + 1) S v = some (J 1, v') ∧ CT S v' a L z' ∧ NX L z' rest (z 5) (z 6) (z 7) ∧ stD S v' (a + 3) (s00 st d ag) ∧ fri (a + 1) 8 v v' := by
  have n1 : ¬ J 1 = J 0 := by decide
  have hf : flB (z 5) (z 6) (z 7) := hz.2.2.2.2.1
  have g4 := hL.2.1.2.2.2
  have l3 := gcL_st hL (Or.inl rfl)
  obtain ⟨R1, z1, a1, C1, X1, -⟩ := tk_adv (N := N) hN hL hC hz hA
  rw [numL_p (show 0 ≤ st by omega)] at X1
  obtain ⟨I1, ⟨k1, m1⟩, A1, f5, f6, f7⟩ := nx_n (y := st.toNat) X1 hf sp_32 (by omega) (hd_sp (by decide))
  obtain ⟨R2, z2, b1, C2, X2, m2⟩ := tk_num (N := N) (lo := 10) (hi := 999) hN hL C1 I1 k1 m1 A1 (by omega) ⟨by decide, by decide⟩
  rw [f5, f6, f7] at X2
  rw [wr_wr] at b1 C2
  obtain ⟨I2, t2, A2, h5, h6, h7⟩ := nx_w X2 hf sp_32 cw_ne cw_kd (hd_sp (by decide))
  have w11 := is_word (N := N) (j := 11) hN hL C2 I2 (by decide) t2
  obtain ⟨R3, z3, c1, C3, X3, m3⟩ := tk_signed (N := N) (m := 99) hN hL C2 I2 A2 (by decide) (by omega) (hd_sp (by decide))
  rw [h5, h6, h7] at X3
  rw [wr_wr] at c1 C3
  obtain ⟨I3, t3, A3, p5, p6, p7⟩ := nx_w X3 hf sp_32 cw_ne cw_kd (hd_sp (by decide))
  have w12 := is_word (N := N) (j := 12) hN hL C3 I3 (by decide) t3
  obtain ⟨R4, z4, d1, C4, X4, m4⟩ := tk_signed (N := N) (m := 1) hN hL C3 I3 A3 (by decide) (by omega) (hd_sc (by decide))
  rw [p5, p6, p7] at X4
  rw [wr_wr] at d1 C4
  obtain ⟨I4, k4, A4, r5, r6, r7⟩ := nx_c (sp := []) (κ := 3) X4 hf sp_0 (by decide) (Or.inl rfl)
  obtain ⟨f, e1, C5, D5⟩ := tx_start (p1 := st) (p2 := d) (p3 := ag) hL C4 (stD_lo (f := R4) (x := a + 1) hD (by omega))
  obtain ⟨R6, z6, s1, C6, X6⟩ := tk_semi (N := N) hN hL C5 I4 k4 A4
  rw [r5, r6, r7] at X6
  have j2 : gi (wr v (a + 1) R2) (a + 1) 12 = J st := by rw [CT_gi C2 (by decide), m2, show ((st.toNat : Nat) : Int) = st by omega]
  have j3 : gi (wr v (a + 1) R3) (a + 1) 12 = J d := by rw [CT_gi C3 (by decide), m3]
  have j4 : gi (wr v (a + 1) R4) (a + 1) 12 = J ag := by rw [CT_gi C4 (by decide), m4]
  refine ⟨_, z6, ?_, C6, X6, stD_lo (f := R6) (x := a + 1) D5 (by omega), fri_tr (fri_tr (fri_wr (by omega)) (fri_wr (by omega))) (fri_wr (by omega))⟩
  unfold F_tx_readClock
  rw [grd_true _ hL.2.1.1, a1, Option.bind_some, b1, Option.bind_some]
  simp only []
  rw [if_neg n1, w11, Option.bind_some, if_neg n1, c1, Option.bind_some]
  simp only []
  rw [if_neg n1]
  unfold K_tx_readClock_52
  rw [grd_true _ hL.2.1.1, w12, Option.bind_some, if_neg n1, d1, Option.bind_some]
  simp only []
  rw [if_neg n1, g4, Option.bind_some, grd_true _ l3.1, l3.2.1, Option.bind_some, grd_true _ l3.2.2.1, j2, j3, j4, e1, Option.bind_some, s1, Option.bind_some]
  simp only []
  rw [grd_true _ (by decide)]
/-- the prescaler's -/
theorem ld_pres (hN : 1000 ≤ N) (hL : gcL S a) (hC : CT S v a L z) (hz : zI L.length z) (h5 : z 5 = 0) (hA : AT L z ([32] ++ (numL P ++ ([59] ++ rest)))) (hP : isP P) (hD : stD S v (a + 3) s) (hs : dV s) (hT : tPs S v a) :
    ∃ v' z', F_tx_readPrescale N (a + 1) S v = some (J 1, v') ∧ CT S v' a L z' ∧ NX L z' ([59] ++ rest) 1 (z 6) (z 7) ∧ stD S v' (a + 3) (psS P s) ∧ dV (psS P s) ∧ fri (a + 1) 8 v v' := by
  have n1 : ¬ J 1 = J 0 := by decide
  obtain ⟨-, q6, q7⟩ : flB (z 5) (z 6) (z 7) := hz.2.2.2.2.1
  have g4 := hL.2.1.2.2.2
  have l3 := gcL_st hL (Or.inl rfl)
  have hP16 := isP_16 hP
  have r5 : gi v (a + 1) 5 = J 0 := by rw [CT_gi hC (by decide), h5]
  obtain ⟨R1, z1, a1, C1, X1⟩ := tk_once (i := 5) (N := N) hN hL hC hz (Or.inl rfl) hA
  have X1' : NX L z1 ([32] ++ (digL P.toNat ++ ([59] ++ rest))) 1 (z 6) (z 7) := by
    rw [← numL_p (show 0 ≤ P by omega)]
    exact X1
  obtain ⟨I1, ⟨k1, m1⟩, A1, f5, f6, f7⟩ := nx_n (y := P.toNat) X1' ⟨Or.inr rfl, q6, q7⟩ sp_32 (by omega) (hd_sc (by decide))
  have eP : ((P.toNat : Nat) : Int) = P := by omega
  rw [eP] at m1
  obtain ⟨R2, z2, b1, C2, X2, m2⟩ := tk_num (N := N) (lo := 1) (hi := 16) hN hL C1 I1 k1 m1 A1 (by omega) ⟨by decide, by decide⟩
  rw [f5, f6, f7] at X2
  rw [wr_wr] at b1 C2
  have pr := (gc_isPrescale (n := P) (N := N) (by omega) (tPs_wr (x := a + 1) (f := R1) hT (by omega)) (by omega)).1 hP
  have j8 : gi (wr v (a + 1) R1) (a + 1) 8 = J 2 := by rw [CT_gi C1 (by decide), k1]
  have j11 : gi (wr v (a + 1) R1) (a + 1) 11 = J P := by rw [CT_gi C1 (by decide), m1]
  have j12 : gi (wr v (a + 1) R2) (a + 1) 12 = J P := by rw [CT_gi C2 (by decide), m2]
  obtain ⟨f, e1, e2⟩ := st_setUp (P := P) (stD_lo (f := R2) (x := a + 1) hD (by omega))
  refine ⟨_, z2, ?_, CS_d C2 (by omega), X2, e2, dV_ps hs hP16, fri_tr (fri_wr (by omega)) (fri_wr (by omega))⟩
  unfold F_tx_readPrescale
  rw [grd_true _ hL.2.1.1, r5, if_pos rfl, lt_def, a1, Option.bind_some, j8, if_pos rfl, j11, pr, Option.bind_some, if_neg n1]
  unfold K_tx_readPrescale_46
  rw [grd_true _ hL.2.1.1, b1, Option.bind_some]
  simp only []
  rw [if_neg n1, g4, Option.bind_some, grd_true _ l3.1, l3.2.2.2.1, Option.bind_some, grd_true _ l3.2.2.2.2.1.1, j12, e1, Option.bind_some]
theorem ld_gate {h c g t p : Nat → Int} {M : Nat → Nat → Int} (hN : 1000 ≤ N) (hL : gcL S a) (hC : CT S v a L z) (hz : zI L.length z) (h5 : z 6 = 0) (hA : AT L z ([32] ++ (numL G ++ ([59] ++ rest)))) (hG : 1 ≤ G ∧ G ≤ 9999) (hD : stD S v (a + 3) (h, c, g, t, p, M)) (hs : dV (h, c, g, t, p, M)) :
    ∃ v' z', F_tx_readGate N (a + 1) S v = some (J 1, v') ∧ CT S v' a L z' ∧ NX L z' ([59] ++ rest) (z 5) 1 (z 7) ∧ stD S v' (a + 3) (upZ h 1 G, c, g, t, p, M) ∧ dV (upZ h 1 G, c, g, t, p, M) ∧ fri (a + 1) 8 v v' := by
  have n1 : ¬ J 1 = J 0 := by decide
  obtain ⟨q5, -, q7⟩ : flB (z 5) (z 6) (z 7) := hz.2.2.2.2.1
  have g4 := hL.2.1.2.2.2
  have l3 := gcL_st hL (Or.inl rfl)
  have r5 : gi v (a + 1) 6 = J 0 := by rw [CT_gi hC (by decide), h5]
  obtain ⟨R1, z1, a1, C1, X1⟩ := tk_once (i := 6) (N := N) hN hL hC hz (Or.inr (Or.inl rfl)) hA
  have X1' : NX L z1 ([32] ++ (digL G.toNat ++ ([59] ++ rest))) (z 5) 1 (z 7) := by
    rw [← numL_p (show 0 ≤ G by omega)]
    exact X1
  obtain ⟨I1, ⟨k1, m1⟩, A1, f5, f6, f7⟩ := nx_n (y := G.toNat) X1' ⟨q5, Or.inr rfl, q7⟩ sp_32 (by omega) (hd_sc (by decide))
  have eG : ((G.toNat : Nat) : Int) = G := by omega
  rw [eG] at m1
  obtain ⟨R2, z2, b1, C2, X2, m2⟩ := tk_num (N := N) (lo := 1) (hi := 9999) hN hL C1 I1 k1 m1 A1 (by omega) ⟨by decide, by decide⟩
  rw [f5, f6, f7] at X2
  rw [wr_wr] at b1 C2
  have j12 : gi (wr v (a + 1) R2) (a + 1) 12 = J G := by rw [CT_gi C2 (by decide), m2]
  obtain ⟨l, hh, hc, hW⟩ := stD_lo (f := R2) (x := a + 1) hD (by omega)
  have D2 : stD S (wr (wr v (a + 1) R2) (a + 3) (up (rw v (a + 3)) 1 (J G))) (a + 3) (upZ h 1 G, c, g, t, p, M) := by
    rw [rw_wr_ne (by omega)] at hh
    exact ⟨l, by rw [rw_wr]; exact ag_up hh, by rw [rw_wr_ne (by omega)]; exact hc, sgW_ne hW (by omega)⟩
  refine ⟨_, z2, ?_, CS_d (x := a + 3) (f := up (rw v (a + 3)) 1 (J G)) C2 (by omega), X2, D2, ?_, fri_tr (fri_wr (by omega)) (fri_wr (by omega))⟩
  · unfold F_tx_readGate
    rw [grd_true _ hL.2.1.1, r5, if_pos rfl, lt_def, a1, Option.bind_some, b1, Option.bind_some]
    simp only []
    rw [if_neg n1, g4, Option.bind_some, grd_true _ l3.1, j12, lt_def, si_wr, rw_wr_ne (by omega)]
  · obtain ⟨h1, h2, h3, h4, h5⟩ := hs
    obtain ⟨⟨v0, v1, v2, v3, v5⟩, vr⟩ := h1
    exact ⟨⟨by unfold hV upZ; exact ⟨v0, hG, v2, v3, v5⟩, vr⟩, h2, h3, h4, h5⟩
theorem ld_per {h c g t p : Nat → Int} {M : Nat → Nat → Int} (hN : 1000 ≤ N) (hL : gcL S a) (hC : CT S v a L z) (hz : zI L.length z) (h5 : z 7 = 0) (hA : AT L z ([32] ++ (numL G ++ ([59] ++ rest)))) (hG : 1 ≤ G ∧ G ≤ 999) (hD : stD S v (a + 3) (h, c, g, t, p, M)) (hs : dV (h, c, g, t, p, M)) :
    ∃ v' z', F_tx_readPeriods N (a + 1) S v = some (J 1, v') ∧ CT S v' a L z' ∧ NX L z' ([59] ++ rest) (z 5) (z 6) 1 ∧ stD S v' (a + 3) (upZ h 2 G, c, g, t, p, M) ∧ dV (upZ h 2 G, c, g, t, p, M) ∧ fri (a + 1) 8 v v' := by
  have n1 : ¬ J 1 = J 0 := by decide
  obtain ⟨q5, q6, -⟩ : flB (z 5) (z 6) (z 7) := hz.2.2.2.2.1
  have g4 := hL.2.1.2.2.2
  have l3 := gcL_st hL (Or.inl rfl)
  have r5 : gi v (a + 1) 7 = J 0 := by rw [CT_gi hC (by decide), h5]
  obtain ⟨R1, z1, a1, C1, X1⟩ := tk_once (i := 7) (N := N) hN hL hC hz (Or.inr (Or.inr rfl)) hA
  have X1' : NX L z1 ([32] ++ (digL G.toNat ++ ([59] ++ rest))) (z 5) (z 6) 1 := by
    rw [← numL_p (show 0 ≤ G by omega)]
    exact X1
  obtain ⟨I1, ⟨k1, m1⟩, A1, f5, f6, f7⟩ := nx_n (y := G.toNat) X1' ⟨q5, q6, Or.inr rfl⟩ sp_32 (by omega) (hd_sc (by decide))
  have eG : ((G.toNat : Nat) : Int) = G := by omega
  rw [eG] at m1
  obtain ⟨R2, z2, b1, C2, X2, m2⟩ := tk_num (N := N) (lo := 1) (hi := 999) hN hL C1 I1 k1 m1 A1 (by omega) ⟨by decide, by decide⟩
  rw [f5, f6, f7] at X2
  rw [wr_wr] at b1 C2
  have j12 : gi (wr v (a + 1) R2) (a + 1) 12 = J G := by rw [CT_gi C2 (by decide), m2]
  obtain ⟨l, hh, hc, hW⟩ := stD_lo (f := R2) (x := a + 1) hD (by omega)
  have D2 : stD S (wr (wr v (a + 1) R2) (a + 3) (up (rw v (a + 3)) 2 (J G))) (a + 3) (upZ h 2 G, c, g, t, p, M) := by
    rw [rw_wr_ne (by omega)] at hh
    exact ⟨l, by rw [rw_wr]; exact ag_up hh, by rw [rw_wr_ne (by omega)]; exact hc, sgW_ne hW (by omega)⟩
  refine ⟨_, z2, ?_, CS_d (x := a + 3) (f := up (rw v (a + 3)) 2 (J G)) C2 (by omega), X2, D2, ?_, fri_tr (fri_wr (by omega)) (fri_wr (by omega))⟩
  · unfold F_tx_readPeriods
    rw [grd_true _ hL.2.1.1, r5, if_pos rfl, lt_def, a1, Option.bind_some, b1, Option.bind_some]
    simp only []
    rw [if_neg n1, g4, Option.bind_some, grd_true _ l3.1, j12, lt_def, si_wr, rw_wr_ne (by omega)]
  · obtain ⟨h1, h2, h3, h4, h5⟩ := hs
    obtain ⟨⟨v0, v1, v2, v3, v5⟩, vr⟩ := h1
    exact ⟨⟨by unfold hV upZ; exact ⟨v0, v1, hG, v3, v5⟩, vr⟩, h2, h3, h4, h5⟩
/-- a segment's -/
theorem ld_sig {h c g t p : Nat → Int} {M : Nat → Nat → Int} (hN : 1000 ≤ N) (hL : gcL S a) (hC : CT S v a L z) (hz : zI L.length z) (hA : AT L z ([32] ++ (numL A ++ ([32] ++ (numL P ++ ([59] ++ rest)))))) (h8 : g 8 < 8) (hx : lsZ g t < A ∧ 0 ≤ A ∧ A ≤ 999999) (hP : 0 ≤ P ∧ P ≤ 9999) (hD : stD S v (a + 3) (h, c, g, t, p, M)) (hs : dV (h, c, g, t, p, M)) :
    ∃ v' z', F_tx_readSignal N (a + 1) S v = some (J 1, v') ∧ CT S v' a L z' ∧ NX L z' ([59] ++ rest) (z 5) (z 6) (z 7) ∧ stD S v' (a + 3) (asS (h, c, g, t, p, M) A P) ∧ dV (asS (h, c, g, t, p, M) A P) ∧ fri (a + 1) 8 v v' := by
  have n1 : ¬ J 1 = J 0 := by decide
  have hf : flB (z 5) (z 6) (z 7) := hz.2.2.2.2.1
  have g4 := hL.2.1.2.2.2
  have l3 := gcL_st hL (Or.inl rfl)
  have lg := l3.2.2.2.2.1
  have b8 := (stV_8 (h := h) (c := c) (g := g) (t := t) (p := p) (M := M) hs.1)
  have hlB := lsZ_B (h := h) (c := c) (g := g) (t := t) (p := p) (M := M) hs.1
  have e8 : gi v (a + 3 + 2) 8 = J (g 8) := by rw [gi_rw]; exact hD.2.2.2.2.1 8 (by decide)
  obtain ⟨R1, z1, a1, C1, X1, -⟩ := tk_adv (N := N) hN hL hC hz hA
  rw [numL_p hx.2.1] at X1
  obtain ⟨I1, ⟨k1, m1⟩, A1, f5, f6, f7⟩ := nx_n (y := A.toNat) X1 hf sp_32 (by omega) (hd_sp (by decide))
  rw [show ((A.toNat : Nat) : Int) = A by omega] at m1
  obtain ⟨R2, z2, b1, C2, X2, m2⟩ := tk_num (N := N) (lo := 0) (hi := 999999) hN hL C1 I1 k1 m1 A1 (by omega) ⟨by decide, by decide⟩
  rw [f5, f6, f7] at X2
  rw [wr_wr] at b1 C2
  rw [numL_p hP.1] at X2
  obtain ⟨I2, ⟨k2, q2⟩, A2, h5, h6, h7⟩ := nx_n (y := P.toNat) X2 hf sp_32 (by omega) (hd_sc (by decide))
  rw [show ((P.toNat : Nat) : Int) = P by omega] at q2
  obtain ⟨R3, z3, c1, C3, X3, m3⟩ := tk_num (N := N) (lo := 0) (hi := 9999) hN hL C2 I2 k2 q2 A2 (by omega) ⟨by decide, by decide⟩
  rw [h5, h6, h7] at X3
  rw [wr_wr] at c1 C3
  have D1 : stD S (wr v (a + 1) R1) (a + 3) (h, c, g, t, p, M) := stD_lo hD (by omega)
  have r8 : gi (wr v (a + 1) R1) (a + 1) 8 = J 2 := by rw [CT_gi C1 (by decide), k1]
  have r11 : gi (wr v (a + 1) R1) (a + 1) 11 = J A := by rw [CT_gi C1 (by decide), m1]
  have j2 : gi (wr v (a + 1) R2) (a + 1) 12 = J A := by rw [CT_gi C2 (by decide), m2]
  have j3 : gi (wr v (a + 1) R3) (a + 1) 12 = J P := by rw [CT_gi C3 (by decide), m3]
  have b80 : 0 ≤ g 8 ∧ g 8 ≤ 8 := by omega
  obtain ⟨l, hh, hc, hW⟩ := stD_lo (f := R3) (x := a + 1) hD (by omega)
  obtain ⟨v', e1, e2, e3, -⟩ := sg_append (x := A) (y := P) hW ⟨b80.1, h8⟩
  have C4 : CT S v' a L z3 := by
    obtain ⟨⟨y1, y2, y3⟩, y4, y5⟩ := C3
    exact ⟨⟨y1, y2, fun i hi => by rw [e3.2 _ (by omega)]; exact y3 i hi⟩, wdS_eq y4 (fun b hb => e3.2 _ (by omega)), by rw [e3.2 _ (by omega)]; exact y5⟩
  refine ⟨v', z3, ?_, C4, X3, ⟨l, by rw [e3.2 _ (by omega)]; exact hh, by rw [e3.2 _ (by omega)]; exact hc, e2⟩, stD_ap hs h8 hx hP, fri_tr (fri_wr (by omega)) (fri_mono e3 (by omega) (by omega))⟩
  unfold F_tx_readSignal
  rw [grd_true _ hL.2.1.1, g4, Option.bind_some, grd_true _ l3.1, l3.2.2.2.1, Option.bind_some, grd_true _ lg.1, e8, if_pos ((J_lt (by omega) (by decide)).mpr h8), a1, Option.bind_some, r8, if_pos rfl, sg_last D1.2.2.2 b80, Option.bind_some, r11, if_pos ((J_lt (by omega) (by omega)).mpr hx.1)]
  unfold K_tx_readSignal_56
  rw [grd_true _ hL.2.1.1, b1, Option.bind_some]
  simp only []
  rw [if_neg n1, c1, Option.bind_some]
  simp only []
  rw [if_neg n1, g4, Option.bind_some, grd_true _ l3.1, l3.2.2.2.1, Option.bind_some, grd_true _ lg.1, j2, j3, e1, Option.bind_some]
/-- behind a statement, its semicolon -/
theorem ld_semi {v1 : vl} {z1 : Nat → Int} {f5 f6 f7 : Int} (hN : 1000 ≤ N) (hL : gcL S a) (C1 : CT S v1 a L z1) (X1 : NX L z1 ([59] ++ rest) f5 f6 f7) (hf : flB f5 f6 f7) (hD : stD S v1 (a + 3) s) (hfr : fri (a + 1) 8 v v1) :
    ∃ v' z', F_tx_takeSemicolon N (a + 1) S v1 = some (J 1, v') ∧ CT S v' a L z' ∧ NX L z' rest f5 f6 f7 ∧ stD S v' (a + 3) s ∧ fri (a + 1) 8 v v' := by
  obtain ⟨I1, k1, A1, r5, r6, r7⟩ := nx_c (sp := []) (κ := 3) X1 hf sp_0 (by decide) (Or.inl rfl)
  obtain ⟨R2, z2, s1, C2, X2⟩ := tk_semi (N := N) hN hL C1 I1 k1 A1
  rw [r5, r6, r7] at X2
  exact ⟨_, z2, s1, C2, X2, stD_lo hD (by omega), fri_tr hfr (fri_wr (by omega))⟩
theorem stmt_13 {v1 v2 : vl} (hN : 1000 ≤ N) (hL : gcL S a) (hC : CT S v a L z) (hz : zI L.length z) (hw : tokW L z (cwL 13)) (e1 : F_tx_readPrescale N (a + 1) S v = some (J 1, v1)) (e2 : F_tx_takeSemicolon N (a + 1) S v1 = some (J 1, v2)) : F_tx_readStatement N (a + 1) S v = some (J 1, v2) := by
  have n1 : ¬ J 1 = J 0 := by decide
  have w13 := is_word (N := N) (j := 13) hN hL hC hz (by decide) hw
  unfold F_tx_readStatement
  rw [grd_true _ hL.2.1.1, w13, Option.bind_some, if_neg n1, e1, Option.bind_some]
  simp only []
  rw [if_neg n1, e2, Option.bind_some]
  simp only []
  rw [if_neg n1]
theorem stmt_14 {v1 v2 : vl} (hN : 1000 ≤ N) (hL : gcL S a) (hC : CT S v a L z) (hz : zI L.length z) (hw : tokW L z (cwL 14)) (e1 : F_tx_readGate N (a + 1) S v = some (J 1, v1)) (e2 : F_tx_takeSemicolon N (a + 1) S v1 = some (J 1, v2)) : F_tx_readStatement N (a + 1) S v = some (J 1, v2) := by
  have n1 : ¬ J 1 = J 0 := by decide
  have w13 := no_word (N := N) (j := 13) hN hL hC hz (by decide) hw (by decide)
  have w14 := is_word (N := N) (j := 14) hN hL hC hz (by decide) hw
  unfold F_tx_readStatement
  rw [grd_true _ hL.2.1.1, w13, Option.bind_some, if_pos rfl, w14, Option.bind_some, if_neg n1, e1, Option.bind_some]
  simp only []
  rw [if_neg n1, e2, Option.bind_some]
  simp only []
  rw [if_neg n1]
theorem stmt_15 {v1 v2 : vl} (hN : 1000 ≤ N) (hL : gcL S a) (hC : CT S v a L z) (hz : zI L.length z) (hw : tokW L z (cwL 15)) (e1 : F_tx_readPeriods N (a + 1) S v = some (J 1, v1)) (e2 : F_tx_takeSemicolon N (a + 1) S v1 = some (J 1, v2)) : F_tx_readStatement N (a + 1) S v = some (J 1, v2) := by
  have n1 : ¬ J 1 = J 0 := by decide
  have w13 := no_word (N := N) (j := 13) hN hL hC hz (by decide) hw (by decide)
  have w14 := no_word (N := N) (j := 14) hN hL hC hz (by decide) hw (by decide)
  have w15 := is_word (N := N) (j := 15) hN hL hC hz (by decide) hw
  unfold F_tx_readStatement
  rw [grd_true _ hL.2.1.1, w13, Option.bind_some, if_pos rfl, w14, Option.bind_some, if_pos rfl, w15, Option.bind_some, if_neg n1, e1, Option.bind_some]
  simp only []
  rw [if_neg n1, e2, Option.bind_some]
  simp only []
  rw [if_neg n1]
theorem stmt_16 {v1 v2 : vl} (hN : 1000 ≤ N) (hL : gcL S a) (hC : CT S v a L z) (hz : zI L.length z) (hw : tokW L z (cwL 16)) (e1 : F_tx_readSignal N (a + 1) S v = some (J 1, v1)) (e2 : F_tx_takeSemicolon N (a + 1) S v1 = some (J 1, v2)) : F_tx_readStatement N (a + 1) S v = some (J 1, v2) := by
  have n1 : ¬ J 1 = J 0 := by decide
  have w13 := no_word (N := N) (j := 13) hN hL hC hz (by decide) hw (by decide)
  have w14 := no_word (N := N) (j := 14) hN hL hC hz (by decide) hw (by decide)
  have w15 := no_word (N := N) (j := 15) hN hL hC hz (by decide) hw (by decide)
  have w16 := is_word (N := N) (j := 16) hN hL hC hz (by decide) hw
  unfold F_tx_readStatement
  rw [grd_true _ hL.2.1.1, w13, Option.bind_some, if_pos rfl, w14, Option.bind_some, if_pos rfl, w15, Option.bind_some, if_pos rfl, w16, Option.bind_some, if_neg n1, e1, Option.bind_some]
  simp only []
  rw [if_neg n1, e2, Option.bind_some]
  simp only []
  rw [if_neg n1]
/-- one turn of the reading -/
theorem rd_step {v1 : vl} {F q : Nat} (hL : gcL S a) (hC : CT S v a L z) (h8 : z 8 = 1) (hq : q < L.length) (e : F_tx_readStatement N (a + 1) S v = some (J 1, v1)) : K_tx_read_65 N (F + 1) S v (a + 1) (J 1) (J (q : Int)) = K_tx_read_65 N F S v1 (a + 1) (J 1) (J ((q + 1 : Nat) : Int)) := by
  have n1 : ¬ J 1 = J 0 := by decide
  have n5 := hC.1.1
  have r1 : gi v (a + 1) 1 = J (L.length : Int) := by rw [gi_rw]; exact hC.2.2.1
  have r8 : gi v (a + 1) 8 = J 1 := by rw [CT_gi hC (by decide), h8]
  show Y_tx_read_65 N (K_tx_read_65 N F S) S v (a + 1) (J 1) (J (q : Int)) = _
  unfold Y_tx_read_65
  rw [grd_true _ hL.2.1.1, r1, if_pos ((J_lt (by omega) (by omega)).mpr (by omega)), if_neg n1, r8, if_neg n1, e, Option.bind_some]
  simp only []
  rw [J_s]
theorem rd_end {F q : Nat} (hL : gcL S a) (hC : CT S v a L z) (h8 : z 8 = 0) : K_tx_read_65 N (F + 1) S v (a + 1) (J 1) (J (q : Int)) = some (J 1, v) := by
  have n1 : ¬ J 1 = J 0 := by decide
  have r8 : gi v (a + 1) 8 = J 0 := by rw [CT_gi hC (by decide), h8]
  show Y_tx_read_65 N (K_tx_read_65 N F S) S v (a + 1) (J 1) (J (q : Int)) = _
  unfold Y_tx_read_65
  rw [grd_true _ hL.2.1.1, if_neg n1, r8, if_pos rfl, grd_true _ (by decide)]
  split <;> rfl
end LAWSTMT