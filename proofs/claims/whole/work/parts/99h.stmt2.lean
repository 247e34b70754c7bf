/-! The text that is read: gate, periods, segments. -/
section STMT2
variable {S : shp} {v w : vl} {a m N n : Nat} {B : Nat → Int} {z : Nat → Int} {R0 R Q : Nat → Int32} {ln : Nat → Nat} {W : Nat → Nat → Int} {s : sta}
theorem jd_gate (hN : 1000 ≤ N) (hL : gcL S a) (ham : a ≤ m) (hC : CS S v a n B ln W z) (hz : zI n z) (h8 : z 8 ≠ 0) (hD : stD S v (a + 3) s) (hs : dV s) :
    JD S a m n B ln W v z s (F_tx_readGate N (a + 1) S v) (fun T w => F_gm_readOnce N m (J 1) (J 5) (J 9999) T w) (fun z' => z 9 < z' 9) := by
  have n1 : ¬ J 1 = J 0 := by decide
  have g4 := hL.2.1.2.2.2
  have l3 := gcL_st hL (Or.inl rfl)
  obtain ⟨zz2, zz9, zz8, zz11, z5, zz0⟩ := id hz
  obtain ⟨bt1, bt0, bt2⟩ := bit_1 z5.1 z5.2.1 z5.2.2
  have on := fun {T : shp} {R0 : Nat → Int32} {w : vl} (hl : mdL T m) (hw : MS T w a m n B ln W R0 z) => gm_once (N := N) (b := J 1) (i := 6) hN hl ham hw hz (by decide) bt1 bt0 bt2
  have r6 : gi v (a + 1) 6 = J (z 6) := by rw [gi_rw]; exact hC.2.2.2 6 (by decide) (by decide)
  rcases z5.2.1 with o | o
  · obtain ⟨R1, a1, C1⟩ := tx_once (N := N) (i := 6) hN hL hC hz (by decide)
    obtain ⟨I1, p1⟩ := q1_I (i := 6) hC.1.2.1 hz h8 (by decide)
    obtain ⟨z1, ez⟩ : ∃ z1, z1 = adZ B n (q1Z 6 z) := ⟨_, rfl⟩
    rw [← ez] at C1 I1 p1
    obtain ⟨x, z2, R2, b1, b2, b3, b4, b5⟩ := jt_num (lo := 1) (hi := 9999) (N := N) hN hL ham C1 I1 ⟨by decide, by decide⟩
    rw [wr_wr] at b1 b2
    rcases b3 with y | y
    · subst y
      refine ⟨0, z2, s, _, ?_, b2, fri_wr (by omega), Or.inl rfl, fun y => by omega, fun T R0 w hl hw hr => ?_⟩
      · unfold F_tx_readGate
        rw [grd_true _ hL.2.1.1, r6, if_pos (by rw [o])]
        simp only [lt_def]
        rw [a1]
        simp only [Option.bind_some]
        rw [b1]
        rfl
      · obtain ⟨Q1, k1, k2⟩ := (on hl hw).2 o
        rw [← ez] at k2
        obtain ⟨Q2, d1, d2, -⟩ := b5 T R0 _ hl k2
        try dsimp only at d1
        rw [wr_wr] at d1 d2
        refine ⟨_, ?_, d2, fri_wr (by omega), fun y => by omega⟩
        show F_gm_readOnce N m (J 1) (J 5) (J 9999) T w = _
        unfold F_gm_readOnce
        rw [grd_true _ hl.1, k1]
        simp only [Option.bind_some]
        rw [if_neg n1, d1]
        rfl
    · subst y
      obtain ⟨i1, i2, i3⟩ := b4 rfl
      have j12 : gi (wr v (a + 1) R2) (a + 1) 12 = J (z2 12) := by rw [gi_rw]; exact b2.2.2.2 12 (by decide) (by decide)
      obtain ⟨h, c, g, t, p, M⟩ := s
      obtain ⟨l, hh, hc, hW⟩ := stD_lo (f := R2) (x := a + 1) hD (by omega)
      have D2 : stD S (wr (wr v (a + 1) R2) (a + 3) (up (rw v (a + 3)) 1 (J (z2 12)))) (a + 3) (upZ h 1 (z2 12), c, g, t, p, M) := by
        rw [rw_wr_ne (by omega)] at hh
        exact ⟨l, by rw [rw_wr]; exact ag_up hh, by rw [rw_wr_ne (by omega)]; exact hc, sgW_ne hW (by omega)⟩
      refine ⟨1, z2, (upZ h 1 (z2 12), c, g, t, p, M), _, ?_, CS_d (x := a + 3) (f := up (rw v (a + 3)) 1 (J (z2 12))) b2 (by omega), fri_tr (fri_wr (by omega)) (fri_wr (by omega)), Or.inr rfl, fun _ => ⟨i1, Int.lt_trans p1 i3.2, D2, ?_⟩, fun T R0 w hl hw hr => ?_⟩
      · unfold F_tx_readGate
        rw [grd_true _ hL.2.1.1, r6, if_pos (by rw [o])]
        simp only [lt_def]
        rw [a1]
        simp only [Option.bind_some]
        rw [b1]
        simp only [Option.bind_some]
        rw [if_neg n1, g4]
        simp only [Option.bind_some]
        rw [grd_true _ l3.1, j12, si_wr, rw_wr_ne (by omega)]
      · obtain ⟨h1, h2, h3, h4, h5⟩ := hs
        obtain ⟨⟨v0, v1, v2, v3, v5⟩, vr⟩ := h1
        exact ⟨⟨by unfold hV upZ; exact ⟨v0, i2, v2, v3, v5⟩, vr⟩, h2, h3, h4, h5⟩
      · obtain ⟨Q1, k1, k2⟩ := (on hl hw).2 o
        rw [← ez] at k2
        obtain ⟨Q2, d1, d2, d3⟩ := b5 T R0 _ hl k2
        try dsimp only at d1
        rw [wr_wr] at d1 d2
        have j26 : gi (wr w m Q2) m 26 = J (z2 12) := by rw [gi_rw, rw_wr]; exact d3 rfl
        refine ⟨_, ?_, MS_d (R' := up (rw w (m + 1)) 5 (J (z2 12))) ham d2, fri_tr (fri_wr (by omega)) (fri_wr (by omega)), fun _ => ?_⟩
        · show F_gm_readOnce N m (J 1) (J 5) (J 9999) T w = _
          have tr : (J 5).toInt = ((5 : Nat) : Int) := by decide
          unfold F_gm_readOnce
          rw [grd_true _ hl.1, k1]
          simp only [Option.bind_some]
          rw [if_neg n1, d1]
          simp only [Option.bind_some]
          rw [if_neg n1, hl.2.1]
          simp only [Option.bind_some]
          rw [grd_true _ hl.2.2.1, grd_true _ (vin_of hl.2.2.1 tr (by decide)), clampT tr, j26]
          simp only [lt_def, si_wr]
          rw [rw_wr_ne (show m + 1 ≠ m by omega)]
        · rw [rw_wr]
          exact rowM_set4 hr
  · obtain ⟨R1, a1, C1⟩ := tx_failS (x := 3) hL hC
    refine ⟨0, flZ 3 z, s, _, ?_, C1, fri_wr (by omega), Or.inl rfl, fun y => by omega, fun T R0 w hl hw hr => ?_⟩
    · unfold F_tx_readGate
      rw [grd_true _ hL.2.1.1, r6, if_neg (by rw [o]; decide), a1]
      simp only [Option.bind_some]
      rw [grd_true _ (by decide)]
    · obtain ⟨Q1, k1, k2⟩ := (on hl hw).1 o
      refine ⟨_, ?_, k2, fri_wr (by omega), fun y => by omega⟩
      show F_gm_readOnce N m (J 1) (J 5) (J 9999) T w = _
      unfold F_gm_readOnce
      rw [grd_true _ hl.1, k1]
      rfl
theorem jd_per (hN : 1000 ≤ N) (hL : gcL S a) (ham : a ≤ m) (hC : CS S v a n B ln W z) (hz : zI n z) (h8 : z 8 ≠ 0) (hD : stD S v (a + 3) s) (hs : dV s) :
    JD S a m n B ln W v z s (F_tx_readPeriods N (a + 1) S v) (fun T w => F_gm_readOnce N m (J 2) (J 6) (J 999) T w) (fun z' => z 9 < z' 9) := by
  have n1 : ¬ J 1 = J 0 := by decide
  have g4 := hL.2.1.2.2.2
  have l3 := gcL_st hL (Or.inl rfl)
  obtain ⟨zz2, zz9, zz8, zz11, z5, zz0⟩ := id hz
  obtain ⟨bt1, bt0, bt2⟩ := bit_2 z5.1 z5.2.1 z5.2.2
  have on := fun {T : shp} {R0 : Nat → Int32} {w : vl} (hl : mdL T m) (hw : MS T w a m n B ln W R0 z) => gm_once (N := N) (b := J 2) (i := 7) hN hl ham hw hz (by decide) bt1 bt0 bt2
  have r6 : gi v (a + 1) 7 = J (z 7) := by rw [gi_rw]; exact hC.2.2.2 7 (by decide) (by decide)
  rcases z5.2.2 with o | o
  · obtain ⟨R1, a1, C1⟩ := tx_once (N := N) (i := 7) hN hL hC hz (by decide)
    obtain ⟨I1, p1⟩ := q1_I (i := 7) hC.1.2.1 hz h8 (by decide)
    obtain ⟨z1, ez⟩ : ∃ z1, z1 = adZ B n (q1Z 7 z) := ⟨_, rfl⟩
    rw [← ez] at C1 I1 p1
    obtain ⟨x, z2, R2, b1, b2, b3, b4, b5⟩ := jt_num (lo := 1) (hi := 999) (N := N) hN hL ham C1 I1 ⟨by decide, by decide⟩
    rw [wr_wr] at b1 b2
    rcases b3 with y | y
    · subst y
      refine ⟨0, z2, s, _, ?_, b2, fri_wr (by omega), Or.inl rfl, fun y => by omega, fun T R0 w hl hw hr => ?_⟩
      · unfold F_tx_readPeriods
        rw [grd_true _ hL.2.1.1, r6, if_pos (by rw [o])]
        simp only [lt_def]
        rw [a1]
        simp only [Option.bind_some]
        rw [b1]
        rfl
      · obtain ⟨Q1, k1, k2⟩ := (on hl hw).2 o
        rw [← ez] at k2
        obtain ⟨Q2, d1, d2, -⟩ := b5 T R0 _ hl k2
        try dsimp only at d1
        rw [wr_wr] at d1 d2
        refine ⟨_, ?_, d2, fri_wr (by omega), fun y => by omega⟩
        show F_gm_readOnce N m (J 2) (J 6) (J 999) T w = _
        unfold F_gm_readOnce
        rw [grd_true _ hl.1, k1]
        simp only [Option.bind_some]
        rw [if_neg n1, d1]
        rfl
    · subst y
      obtain ⟨i1, i2, i3⟩ := b4 rfl
      have j12 : gi (wr v (a + 1) R2) (a + 1) 12 = J (z2 12) := by rw [gi_rw]; exact b2.2.2.2 12 (by decide) (by decide)
      obtain ⟨h, c, g, t, p, M⟩ := s
      obtain ⟨l, hh, hc, hW⟩ := stD_lo (f := R2) (x := a + 1) hD (by omega)
      have D2 : stD S (wr (wr v (a + 1) R2) (a + 3) (up (rw v (a + 3)) 2 (J (z2 12)))) (a + 3) (upZ h 2 (z2 12), c, g, t, p, M) := by
        rw [rw_wr_ne (by omega)] at hh
        exact ⟨l, by rw [rw_wr]; exact ag_up hh, by rw [rw_wr_ne (by omega)]; exact hc, sgW_ne hW (by omega)⟩
      refine ⟨1, z2, (upZ h 2 (z2 12), c, g, t, p, M), _, ?_, CS_d (x := a + 3) (f := up (rw v (a + 3)) 2 (J (z2 12))) b2 (by omega), fri_tr (fri_wr (by omega)) (fri_wr (by omega)), Or.inr rfl, fun _ => ⟨i1, Int.lt_trans p1 i3.2, D2, ?_⟩, fun T R0 w hl hw hr => ?_⟩
      · unfold F_tx_readPeriods
        rw [grd_true _ hL.2.1.1, r6, if_pos (by rw [o])]
        simp only [lt_def]
        rw [a1]
        simp only [Option.bind_some]
        rw [b1]
        simp only [Option.bind_some]
        rw [if_neg n1, g4]
        simp only [Option.bind_some]
        rw [grd_true _ l3.1, j12, si_wr, rw_wr_ne (by omega)]
      · obtain ⟨h1, h2, h3, h4, h5⟩ := hs
        obtain ⟨⟨v0, v1, v2, v3, v5⟩, vr⟩ := h1
        exact ⟨⟨by unfold hV upZ; exact ⟨v0, v1, i2, v3, v5⟩, vr⟩, h2, h3, h4, h5⟩
      · obtain ⟨Q1, k1, k2⟩ := (on hl hw).2 o
        rw [← ez] at k2
        obtain ⟨Q2, d1, d2, d3⟩ := b5 T R0 _ hl k2
        try dsimp only at d1
        rw [wr_wr] at d1 d2
        have j26 : gi (wr w m Q2) m 26 = J (z2 12) := by rw [gi_rw, rw_wr]; exact d3 rfl
        refine ⟨_, ?_, MS_d (R' := up (rw w (m + 1)) 6 (J (z2 12))) ham d2, fri_tr (fri_wr (by omega)) (fri_wr (by omega)), fun _ => ?_⟩
        · show F_gm_readOnce N m (J 2) (J 6) (J 999) T w = _
          have tr : (J 6).toInt = ((6 : Nat) : Int) := by decide
          unfold F_gm_readOnce
          rw [grd_true _ hl.1, k1]
          simp only [Option.bind_some]
          rw [if_neg n1, d1]
          simp only [Option.bind_some]
          rw [if_neg n1, hl.2.1]
          simp only [Option.bind_some]
          rw [grd_true _ hl.2.2.1, grd_true _ (vin_of hl.2.2.1 tr (by decide)), clampT tr, j26]
          simp only [lt_def, si_wr]
          rw [rw_wr_ne (show m + 1 ≠ m by omega)]
        · rw [rw_wr]
          exact rowM_set5 hr
  · obtain ⟨R1, a1, C1⟩ := tx_failS (x := 3) hL hC
    refine ⟨0, flZ 3 z, s, _, ?_, C1, fri_wr (by omega), Or.inl rfl, fun y => by omega, fun T R0 w hl hw hr => ?_⟩
    · unfold F_tx_readPeriods
      rw [grd_true _ hL.2.1.1, r6, if_neg (by rw [o]; decide), a1]
      simp only [Option.bind_some]
      rw [grd_true _ (by decide)]
    · obtain ⟨Q1, k1, k2⟩ := (on hl hw).1 o
      refine ⟨_, ?_, k2, fri_wr (by omega), fun y => by omega⟩
      show F_gm_readOnce N m (J 2) (J 6) (J 999) T w = _
      unfold F_gm_readOnce
      rw [grd_true _ hl.1, k1]
      rfl
theorem stD_ap {x y : Int} (hs : dV s) (h8 : s.2.2.1 8 < 8) (hx : lsZ s.2.2.1 s.2.2.2.1 < x ∧ 0 ≤ x ∧ x ≤ 999999) (hy : 0 ≤ y ∧ y ≤ 9999) : dV (asS s x y) := by
  obtain ⟨h1, h2, h3, h4, h5⟩ := hs
  obtain ⟨hh, hc, ⟨⟨u, hJ, q0, q1⟩, g6, g7⟩, ⟨u', hJ', q0', q1'⟩, hT, hM⟩ := h1
  have J := apJ (x := x) (y := y) hJ' h8 (by omega) hy (by omega)
  have e8 : (asS s x y).2.2.1 8 = s.2.2.1 8 + 1 := rfl
  have b8 := hJ'.2.1
  refine ⟨⟨hh, hc, ⟨⟨u', J, q0', by omega⟩, g6, g7⟩, ⟨u', J, q0', q1'⟩, hT, hM⟩, h2, h3, h4, ?_⟩
  show lsZ (apG s.2.2.1) (apT s.2.2.1 x s.2.2.2.1) ≤ 999999
  have e : lsZ (apG s.2.2.1) (apT s.2.2.1 x s.2.2.2.1) = x := by
    unfold lsZ
    have e8' : apG s.2.2.1 8 = s.2.2.1 8 + 1 := rfl
    rw [e8', if_pos (by omega), show s.2.2.1 8 + 1 - 1 = s.2.2.1 8 by omega]
    unfold apT
    rw [if_pos (by omega)]
  omega
theorem jd_sig (hN : 1000 ≤ N) (hL : gcL S a) (ham : a ≤ m) (hC : CS S v a n B ln W z) (hz : zI n z) (h8 : z 8 ≠ 0) (hD : stD S v (a + 3) s) (hs : dV s) :
    JD S a m n B ln W v z s (F_tx_readSignal N (a + 1) S v) (fun T w => F_gm_readSignal N m T w) (fun z' => z 9 < z' 9) := by
  have n1 : ¬ J 1 = J 0 := by decide
  have g4 := hL.2.1.2.2.2
  have l3 := gcL_st hL (Or.inl rfl)
  have lg := l3.2.2.2.2.1
  obtain ⟨h, c, g, t, p, M⟩ := s
  have b8 := (stV_8 (h := h) (c := c) (g := g) (t := t) (p := p) (M := M) hs.1)
  have hls : lsZ g t ≤ 999999 := hs.2.2.2.2
  have hlB := lsZ_B (h := h) (c := c) (g := g) (t := t) (p := p) (M := M) hs.1
  have e8 : gi v (a + 3 + 2) 8 = J (g 8) := by rw [gi_rw]; exact hD.2.2.2.2.1 8 (by decide)
  have m19 : ∀ {w : vl}, rwM (rw w (m + 1)) (h, c, g, t, p, M) → gi w (m + 1) 19 = J (g 8) := fun hr => by rw [gi_rw]; exact hr.1 19 (by decide)
  by_cases o : g 8 < 8
  · obtain ⟨R1, a1, C1⟩ := tx_advS (N := N) hN hL hC (zI_10 hz)
    obtain ⟨I1, K1⟩ := ad_I hC.1.2.1 hz h8
    obtain ⟨z1, ez⟩ : ∃ z1, z1 = adZ B n z := ⟨_, rfl⟩
    rw [← ez] at C1 I1 K1
    have z18 := I1.2.2.1
    have r8 : gi (wr v (a + 1) R1) (a + 1) 8 = J (z1 8) := by rw [gi_rw]; exact C1.2.2.2 8 (by decide) (by decide)
    have r11 : gi (wr v (a + 1) R1) (a + 1) 11 = J (z1 11) := by rw [gi_rw]; exact C1.2.2.2 11 (by decide) (by decide)
    have D1 : stD S (wr v (a + 1) R1) (a + 3) (h, c, g, t, p, M) := stD_lo hD (by omega)
    have cl : F_tx_readSignal N (a + 1) S v = if J (z1 8) = J 2 then (if J (lsZ g t) < J (z1 11) then K_tx_readSignal_56 N S (wr v (a + 1) R1) (a + 1) else (F_tx_fail (a + 1) (J 4) S (wr v (a + 1) R1)).bind fun (x22, w23) => grd (narrow .boolean (.int x22) = .int x22) <| some ((x22, w23))) else K_tx_readSignal_56 N S (wr v (a + 1) R1) (a + 1) := by
      unfold F_tx_readSignal
      rw [grd_true _ hL.2.1.1, g4]
      simp only [Option.bind_some]
      rw [grd_true _ l3.1, l3.2.2.2.1]
      simp only [Option.bind_some]
      rw [grd_true _ lg.1, e8, if_pos ((J_lt (by omega) (by decide)).mpr o), a1]
      simp only [Option.bind_some]
      rw [r8, sg_last D1.2.2.2 (show 0 ≤ g 8 ∧ g 8 ≤ 8 by omega), r11]
      rfl
    have md : ∀ (T : shp) (R0 : Nat → Int32) (w : vl), mdL T m → MS T w a m n B ln W R0 z → rwM (rw w (m + 1)) (h, c, g, t, p, M) → ∃ Q1, MS T (wr w m Q1) a m n B ln W R0 z1 ∧ F_gm_readSignal N m T w = (F_gm_sees m (J 0) (J 999999) T (wr w m Q1)).bind fun (x9, w10) => (if x9 = (J 0) then some (((J 0), w10)) else (F_gm_greatestTime m T w10).bind fun x11 => (if x11 < (gi w10 m 26) then (F_gm_advanceToken N m T w10).bind fun w12 => (F_gm_reads N m (J 0) (J 9999) T w12).bind fun (x13, w14) => (if x13 = (J 0) then some (((J 0), w14)) else (F_gm_puts m (gi w10 m 26) (gi w14 m 26) T w14).bind fun w15 => some (((J 1), w15))) else (F_gm_failsAt m (J 4) T w10).bind fun (x16, w17) => grd (narrow .boolean (.int x16) = .int x16) <| some ((x16, w17)))) := by
      intro T R0 w hl hw hr
      obtain ⟨Q1, k1, k2, -⟩ := gm_advS (N := N) hN hl ham hw (zI_10 hz)
      rw [← ez] at k2
      refine ⟨Q1, k2, ?_⟩
      unfold F_gm_readSignal
      rw [grd_true _ hl.1, hl.2.1]
      simp only [Option.bind_some]
      rw [grd_true _ hl.2.2.1, m19 hr, if_neg (fun y => by have := (J_eq (by omega) (by decide)).mp y; omega), k1]
      rfl
    by_cases k2 : z1 8 = 2
    · have b11 := I1.2.2.2.1 k2
      have ok : okN 0 999999 z1 := ⟨k2, b11⟩
      have sm : ∀ {T : shp} {R0 : Nat → Int32} {w : vl}, mdL T m → MS T w a m n B ln W R0 z1 → F_gm_sees m (J 0) (J 999999) T w = some (J 1, wr w m (up (rw w m) 26 (J (z1 11)))) := fun hl hw => (gm_seesS (lo := 0) (hi := 999999) hl ham hw I1 ⟨by decide, by decide⟩).1 ok
      rw [if_pos (by rw [k2])] at cl
      by_cases big : lsZ g t < z1 11
      · rw [if_pos ((J_lt (by omega) (by omega)).mpr big)] at cl
        obtain ⟨R2, b1, C2⟩ := (tx_take (N := N) (lo := 0) (hi := 999999) hN hL C1 I1 ⟨by decide, by decide⟩).1 ok
        rw [wr_wr] at b1 C2
        obtain ⟨I2, K2, e12⟩ := adp_I (x := z1 11) hC.1.2.1 I1 (by omega)
        obtain ⟨z2, ez2⟩ : ∃ z2, z2 = adZ B n (p12 (z1 11) z1) := ⟨_, rfl⟩
        rw [← ez2] at C2 I2 K2 e12
        have j12 : gi (wr v (a + 1) R2) (a + 1) 12 = J (z1 11) := by rw [gi_rw, C2.2.2.2 12 (by decide) (by decide), e12]
        obtain ⟨x, z3, R3, c1, c2, c3, c4, c5⟩ := jt_num (lo := 0) (hi := 9999) (N := N) hN hL ham C2 I2 ⟨by decide, by decide⟩
        rw [wr_wr] at c1 c2
        have cl2 : K_tx_readSignal_56 N S (wr v (a + 1) R1) (a + 1) = if J x = J 0 then some (J 0, wr v (a + 1) R3) else (F_sg_append (a + 3 + 2) (J (z1 11)) (J (z3 12)) S (wr v (a + 1) R3)).bind fun w21 => some (((J 1), w21)) := by
          have q12 : gi (wr v (a + 1) R3) (a + 1) 12 = J (z3 12) := by rw [gi_rw]; exact c2.2.2.2 12 (by decide) (by decide)
          unfold K_tx_readSignal_56
          rw [grd_true _ hL.2.1.1, b1]
          simp only [Option.bind_some]
          rw [if_neg n1, c1]
          simp only [Option.bind_some]
          rw [g4]
          simp only [Option.bind_some]
          rw [grd_true _ l3.1, l3.2.2.2.1]
          simp only [Option.bind_some]
          rw [grd_true _ lg.1, j12, q12]
        have md2 : ∀ (T : shp) (R0 : Nat → Int32) (w : vl), mdL T m → MS T w a m n B ln W R0 z → rwM (rw w (m + 1)) (h, c, g, t, p, M) → ∃ Q3, MS T (wr w m Q3) a m n B ln W R0 z3 ∧ F_gm_readSignal N m T w = if J x = J 0 then some (J 0, wr w m Q3) else (F_gm_puts m (J (z1 11)) (J (z3 12)) T (wr w m Q3)).bind fun w15 => some (((J 1), w15)) := by
          intro T R0 w hl hw hr
          obtain ⟨Q1, m1, m2⟩ := md T R0 w hl hw hr
          try dsimp only at m1
          have h26 : MS T (wr (wr w m Q1) m (up (rw (wr w m Q1) m) 26 (J (z1 11)))) a m n B ln W R0 (p12 (z1 11) z1) := MS_26 ham m1
          have sm1 := sm hl m1
          rw [wr_wr, rw_wr] at h26 sm1
          have j26 : gi (wr w m (up Q1 26 (J (z1 11)))) m 26 = J (z1 11) := by rw [gi_rw, rw_wr, up_same]
          have hr1 : rowM (rw (wr w m (up Q1 26 (J (z1 11)))) (m + 1)) h c g t p M := by rw [rw_wr_ne (by omega)]; exact hr
          obtain ⟨Q2, d1, d2, -⟩ := gm_advS (N := N) hN hl ham h26 (zI_10 I1)
          rw [← ez2] at d2
          rw [wr_wr] at d1 d2
          obtain ⟨Q3, f1, f2, f3⟩ := c5 T R0 _ hl d2
          try dsimp only at f1
          rw [wr_wr] at f1 f2
          refine ⟨Q3, f2, ?_⟩
          rw [m2, sm1]
          simp only [Option.bind_some]
          rw [if_neg n1, gm_last hl hr1 (by omega), j26]
          simp only [Option.bind_some]
          rw [if_pos ((J_lt (by omega) (by omega)).mpr big), d1]
          simp only [Option.bind_some]
          rw [f1]
          simp only [Option.bind_some]
          rcases c3 with y | y
          · rw [y, if_pos rfl, if_pos rfl]
          · have q26 : gi (wr w m Q3) m 26 = J (z3 12) := by rw [gi_rw, rw_wr]; exact f3 y
            rw [y, if_neg n1, if_neg n1, q26]
        rcases c3 with y | y
        · subst y
          refine ⟨0, z3, (h, c, g, t, p, M), _, by rw [cl, cl2, if_pos rfl], c2, fri_wr (by omega), Or.inl rfl, fun y => by omega, fun T R0 w hl hw hr => ?_⟩
          obtain ⟨Q3, m1, m2⟩ := md2 T R0 w hl hw hr
          try dsimp only at m1
          exact ⟨_, by show F_gm_readSignal N m T w = _; rw [m2, if_pos rfl], m1, fri_wr (by omega), fun y => by omega⟩
        · subst y
          obtain ⟨i1, i2, i3⟩ := c4 rfl
          obtain ⟨l, hh, hc, hW⟩ := stD_lo (f := R3) (x := a + 1) hD (by omega)
          obtain ⟨v', f1, f2, f3, -⟩ := sg_append (x := z1 11) (y := z3 12) hW (show 0 ≤ g 8 ∧ g 8 < 8 by omega)
          have C4 : CS S v' a n B ln W z3 := by
            obtain ⟨⟨y1, y2, y3⟩, y4, y5⟩ := c2
            exact ⟨⟨y1, y2, fun i hi => by rw [f3.2 _ (by omega)]; exact y3 i hi⟩, wdS_eq y4 (fun b hb => f3.2 _ (by omega)), by rw [f3.2 _ (by omega)]; exact y5⟩
          refine ⟨1, z3, asS (h, c, g, t, p, M) (z1 11) (z3 12), v', ?_, C4, fri_tr (fri_wr (by omega)) (fri_mono f3 (by omega) (by omega)), Or.inr rfl, fun _ => ⟨i1, Int.lt_trans K1.2 (Int.lt_trans K2.2 i3.2), ⟨l, by rw [f3.2 _ (by omega)]; exact hh, by rw [f3.2 _ (by omega)]; exact hc, f2⟩, stD_ap hs o ⟨big, b11⟩ i2⟩, fun T R0 w hl hw hr => ?_⟩
          · rw [cl, cl2, if_neg n1, f1]
            rfl
          · obtain ⟨Q3, m1, m2⟩ := md2 T R0 w hl hw hr
            try dsimp only at m1
            have n8 : (((g 8).toNat : Nat) : Int) = g 8 := by omega
            have r19 : rw (wr w m Q3) (m + 1) 19 = J (((g 8).toNat : Nat) : Int) := by rw [rw_wr_ne (by omega), n8]; exact hr.1 19 (by decide)
            refine ⟨_, ?_, MS_d (R' := apR (rw (wr w m Q3) (m + 1)) (g 8).toNat (z1 11) (z3 12)) ham m1, fri_tr (fri_wr (by omega)) (fri_wr (by omega)), fun _ => ?_⟩
            · show F_gm_readSignal N m T w = _
              rw [m2, if_neg n1, gm_puts hl (by omega) r19]
              rfl
            · rw [rw_wr]
              exact apR_row (by rw [rw_wr_ne (by omega)]; exact hr) (by omega)
      · rw [if_neg (fun y => big ((J_lt (by omega) (by omega)).mp y))] at cl
        obtain ⟨R2, b1, C2⟩ := tx_failS (x := 4) hL C1
        rw [wr_wr] at b1 C2
        refine ⟨0, flZ 4 z1, (h, c, g, t, p, M), _, ?_, C2, fri_wr (by omega), Or.inl rfl, fun y => by omega, fun T R0 w hl hw hr => ?_⟩
        · rw [cl, b1]
          simp only [Option.bind_some]
          rw [grd_true _ (by decide)]
        · obtain ⟨Q1, m1, m2⟩ := md T R0 w hl hw hr
          try dsimp only at m1
          have h26 : MS T (wr (wr w m Q1) m (up (rw (wr w m Q1) m) 26 (J (z1 11)))) a m n B ln W R0 z1 := MS_26 ham m1
          have sm1 := sm hl m1
          rw [wr_wr, rw_wr] at h26 sm1
          have j26 : gi (wr w m (up Q1 26 (J (z1 11)))) m 26 = J (z1 11) := by rw [gi_rw, rw_wr, up_same]
          have hr1 : rowM (rw (wr w m (up Q1 26 (J (z1 11)))) (m + 1)) h c g t p M := by rw [rw_wr_ne (by omega)]; exact hr
          obtain ⟨Q2, d1, d2⟩ := gm_failS (x := 4) hl ham h26 I1.1
          rw [wr_wr] at d1 d2
          refine ⟨_, ?_, d2, fri_wr (by omega), fun y => by omega⟩
          show F_gm_readSignal N m T w = _
          rw [m2, sm1]
          simp only [Option.bind_some]
          rw [if_neg n1, gm_last hl hr1 (by omega), j26]
          simp only [Option.bind_some]
          rw [if_neg (fun y => big ((J_lt (by omega) (by omega)).mp y)), d1]
          simp only [Option.bind_some]
          rw [grd_true _ (by decide)]
    · have nk : ¬ okN 0 999999 z1 := fun y => k2 y.1
      obtain ⟨R2, b1, C2⟩ := (tx_take (N := N) (lo := 0) (hi := 999999) hN hL C1 I1 ⟨by decide, by decide⟩).2 nk
      rw [wr_wr] at b1 C2
      rw [if_neg (fun y => k2 ((J_eq (by omega) (by decide)).mp y))] at cl
      refine ⟨0, flZ (cdN z1) z1, (h, c, g, t, p, M), _, ?_, C2, fri_wr (by omega), Or.inl rfl, fun y => by omega, fun T R0 w hl hw hr => ?_⟩
      · rw [cl]
        unfold K_tx_readSignal_56
        rw [grd_true _ hL.2.1.1, b1]
        rfl
      · obtain ⟨Q1, m1, m2⟩ := md T R0 w hl hw hr
        try dsimp only at m1
        obtain ⟨Q', f1, f2⟩ := (gm_seesS (lo := 0) (hi := 999999) hl ham m1 I1 ⟨by decide, by decide⟩).2 nk
        rw [wr_wr] at f1 f2
        refine ⟨_, ?_, f2, fri_wr (by omega), fun y => by omega⟩
        show F_gm_readSignal N m T w = _
        rw [m2, f1]
        rfl
  · obtain ⟨R1, a1, C1⟩ := tx_failS (x := 5) hL hC
    refine ⟨0, flZ 5 z, (h, c, g, t, p, M), _, ?_, C1, fri_wr (by omega), Or.inl rfl, fun y => by omega, fun T R0 w hl hw hr => ?_⟩
    · unfold F_tx_readSignal
      rw [grd_true _ hL.2.1.1, g4]
      simp only [Option.bind_some]
      rw [grd_true _ l3.1, l3.2.2.2.1]
      simp only [Option.bind_some]
      rw [grd_true _ lg.1, e8, if_neg (fun y => o ((J_lt (by omega) (by decide)).mp y)), a1]
      simp only [Option.bind_some]
      rw [grd_true _ (by decide)]
    · obtain ⟨Q1, k1, k2⟩ := gm_failS (x := 5) hl ham hw hz.1
      refine ⟨_, ?_, k2, fri_wr (by omega), fun y => by omega⟩
      show F_gm_readSignal N m T w = _
      unfold F_gm_readSignal
      rw [grd_true _ hl.1, hl.2.1]
      simp only [Option.bind_some]
      rw [grd_true _ hl.2.2.1, m19 hr, if_pos (by rw [show g 8 = 8 by omega]), k1]
      simp only [Option.bind_some]
      rw [grd_true _ (by decide)]
end STMT2
