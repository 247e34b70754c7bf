/-! The text that is read: the clock's statement. -/
section CLOCK2
variable {S : shp} {v w : vl} {a m N n : Nat} {B : Nat → Int} {z : Nat → Int} {R0 R Q : Nat → Int32} {ln : Nat → Nat} {W : Nat → Nat → Int} {h c g t p : Nat → Int} {M : Nat → Nat → Int}
/-- a semicolon on both sides -/
theorem semi_pt (hN : 1000 ≤ N) (hL : gcL S a) (ham : a ≤ m) (hC : CS S v a n B ln W z) (hz : zI n z) : ∃ x z' R', F_tx_takeSemicolon N (a + 1) S v = some (J x, wr v (a + 1) R') ∧ CS S (wr v (a + 1) R') a n B ln W z' ∧ (x = 0 ∨ x = 1) ∧ (x = 1 → zI n z' ∧ kz z z') ∧ ∀ (T : shp) (R0 : Nat → Int32) (w : vl), mdL T m → MS T w a m n B ln W R0 z → ∃ Q', F_gm_readEnd N m T w = some (J x, wr w m Q') ∧ MS T (wr w m Q') a m n B ln W R0 z' := by
  obtain ⟨t1, t2⟩ := tx_semi (N := N) hN hL hC hz
  by_cases o : z 8 = 3
  · obtain ⟨R', g1, g2⟩ := t1 o
    refine ⟨1, _, R', g1, g2, Or.inr rfl, fun _ => ad_I hC.1.2.1 hz (by omega), fun T R0 w hl hw => (gm_semi (N := N) hN hl ham hw hz).1 o⟩
  · obtain ⟨R', g1, g2⟩ := t2 o
    exact ⟨0, _, R', g1, g2, Or.inl rfl, fun y => by omega, fun T R0 w hl hw => (gm_semi (N := N) hN hl ham hw hz).2 o⟩
/-- the model takes a word, or not -/
theorem gm_acceptS {j : Nat} (hN : 1000 ≤ N) (hl : mdL S m) (ham : a ≤ m) (hw : MS S w a m n B ln W R0 z) (hz : zI n z) (hj : 10 ≤ j ∧ j ≤ 16) :
    (wdZ B z (ln j) (W j) = 0 → F_gm_accepts N m (kad S j) S w = some (J 0, w)) ∧
    (wdZ B z (ln j) (W j) = 1 → ∃ Q', F_gm_accepts N m (kad S j) S w = some (J 1, wr w m Q') ∧ MS S (wr w m Q') a m n B ln W R0 (adZ B n z)) := by
  have e := gm_word (N := N) hN hl hw hz hj
  unfold F_gm_accepts
  rw [grd_true _ hl.1, e]
  simp only [Option.bind_some]
  constructor
  · intro o
    rw [o, if_pos rfl, grd_true _ (by decide)]
  · intro o
    obtain ⟨Q', f1, f2, -⟩ := gm_advS (N := N) hN hl ham hw (zI_10 hz)
    rw [o, if_neg (by decide), f1]
    simp only [Option.bind_some]
    rw [grd_true _ (by decide)]
    exact ⟨Q', rfl, f2⟩
/-- the class's clock is set going -/
theorem tx_start {q1 q2 q3 p1 p2 p3 : Int} (hL : gcL S a) (hC : CS S v a n B ln W z) (hD : stD S v (a + 3) (s00 q1 q2 q3)) : ∃ f, F_ck_start (a + 3 + 1) (J p1) (J p2) (J p3) S v = some (wr v (a + 3 + 1) f) ∧ CS S (wr v (a + 3 + 1) f) a n B ln W z ∧ stD S (wr v (a + 3 + 1) f) (a + 3) (s00 p1 p2 p3) := by
  obtain ⟨l, hh, hc, hW⟩ := hD
  obtain ⟨f, e1, e2⟩ := ck_startS (v := v) (p1 := p1) (p2 := p2) (p3 := p3) l.2.2.1
  exact ⟨f, e1, CS_d hC (by omega), l, by rw [rw_wr_ne (by omega)]; exact hh, by rw [rw_wr]; exact e2, sgW_ne hW (by omega)⟩
theorem jd_52 {p1 p2 q1 q2 q3 : Int} (hN : 1000 ≤ N) (hL : gcL S a) (ham : a ≤ m) (hC : CS S v a n B ln W z) (hz : zI n z) (hD : stD S v (a + 3) (s00 q1 q2 q3)) (h1 : 10 ≤ p1 ∧ p1 ≤ 999) (h2 : -99 ≤ p2 ∧ p2 ≤ 99) :
    JD S a m n B ln W v z (s00 p1 p2 0) (K_tx_readClock_52 N S v (a + 1) (J p1) (J p2) (J 0)) (fun T w => (K_gm_readClock_80 N T w m).bind fun (x2, w3) => if x2 = J 0 then some (J 0, w3) else F_gm_readEnd N m T w3) (fun z' => kz z z') := by
  have n1 : ¬ J 1 = J 0 := by decide
  have w1 := tx_word (N := N) (j := 12) hN hL hC hz (by decide)
  have g4 := hL.2.1.2.2.2
  have l3 := gcL_st hL (Or.inl rfl)
  have wB := (wdZ_B (B := B) (z := z) (len := ln 12) (X := W 12))
  rcases wB.1 with o | o
  · obtain ⟨f, f1, f2, f3⟩ := tx_start (p1 := p1) (p2 := p2) (p3 := 0) hL hC hD
    obtain ⟨x, z', R', e1, e2, e3, e4, e5⟩ := semi_pt (N := N) hN hL ham f2 hz
    refine ⟨x, z', s00 p1 p2 0, _, ?_, e2, fri_tr (fri_wr (by omega)) (fri_wr (by omega)), e3, fun y => ⟨(e4 y).1, (e4 y).2, stD_lo f3 (by omega), s00_V h1 h2 (by decide)⟩, fun T R0 w hl hw hr => ?_⟩
    · unfold K_tx_readClock_52
      rw [grd_true _ hL.2.1.1, w1, o]
      simp only [Option.bind_some, if_true]
      rw [g4]
      simp only [Option.bind_some]
      rw [grd_true _ l3.1, l3.2.1]
      simp only [Option.bind_some]
      rw [grd_true _ l3.2.2.1, f1]
      simp only [Option.bind_some]
      rw [e1]
      simp only [Option.bind_some]
      rw [grd_true _ (by rcases e3 with y | y <;> rw [y] <;> decide)]
    · obtain ⟨Q', k1, k2⟩ := e5 T R0 w hl hw
      try dsimp only at k1
      refine ⟨_, ?_, k2, fri_wr (by omega), fun _ => by rw [rw_wr_ne (by omega)]; exact hr⟩
      show (K_gm_readClock_80 N T w m).bind _ = _
      unfold K_gm_readClock_80
      rw [grd_true _ hl.1, (gm_acceptS hN hl ham hw hz (by decide)).1 o]
      simp only [Option.bind_some, if_true]
      rw [if_neg n1, k1]
  · have z8 : z 8 ≠ 0 := by rw [wB.2 o]; decide
    obtain ⟨x, z1, R1, a1, a2, a3, a4, a5⟩ := jt_sgn (hi := 1) (N := N) hN hL ham hC hz z8 (by decide)
    have cl : K_tx_readClock_52 N S v (a + 1) (J p1) (J p2) (J 0) = if J x = J 0 then some (J 0, wr v (a + 1) R1) else (F_ck_start (a + 3 + 1) (J p1) (J p2) (J (z1 12)) S (wr v (a + 1) R1)).bind fun w26 => (F_tx_takeSemicolon N (a + 1) S w26).bind fun (x27, w28) => grd (narrow .boolean (.int x27) = .int x27) <| some ((x27, w28)) := by
      have j12 : gi (wr v (a + 1) R1) (a + 1) 12 = J (z1 12) := by rw [gi_rw]; exact a2.2.2.2 12 (by decide) (by decide)
      unfold K_tx_readClock_52
      rw [grd_true _ hL.2.1.1, w1, o]
      simp only [Option.bind_some]
      rw [if_neg n1, a1]
      simp only [Option.bind_some]
      rw [g4]
      simp only [Option.bind_some]
      rw [grd_true _ l3.1, l3.2.1]
      simp only [Option.bind_some]
      rw [grd_true _ l3.2.2.1, j12]
    have md : ∀ (T : shp) (R0 : Nat → Int32) (w : vl), mdL T m → MS T w a m n B ln W R0 z → ∃ Q', (K_gm_readClock_80 N T w m).bind (fun (x2, w3) => if x2 = J 0 then some (J 0, w3) else F_gm_readEnd N m T w3) = (if J x = J 0 then some (J 0, wr w m Q') else F_gm_readEnd N m T (wr (wr w m Q') (m + 1) (up (rw w (m + 1)) 3 (J (z1 12))))) ∧ MS T (wr w m Q') a m n B ln W R0 z1 := by
      intro T R0 w hl hw
      obtain ⟨Q1, b1, b2⟩ := (gm_acceptS (N := N) (j := 12) hN hl ham hw hz (by decide)).2 o
      obtain ⟨Q2, c1, c2, c3⟩ := a5 T R0 _ hl b2
      try dsimp only at c1
      rw [wr_wr] at c1 c2
      refine ⟨Q2, ?_, c2⟩
      show (K_gm_readClock_80 N T w m).bind _ = _
      unfold K_gm_readClock_80
      rw [grd_true _ hl.1, b1]
      simp only [Option.bind_some]
      rw [if_neg n1, c1]
      simp only [Option.bind_some]
      rcases a3 with y | y
      · rw [y, if_pos rfl, if_pos rfl]
        rfl
      · have j26 : gi (wr w m Q2) m 26 = J (z1 12) := by rw [gi_rw, rw_wr]; exact c3 y
        rw [y, if_neg n1, if_neg n1, hl.2.1]
        simp only [Option.bind_some]
        rw [grd_true _ hl.2.2.1, j26]
        simp only [lt_def, si_wr, Option.bind_some]
        rw [if_neg n1, rw_wr_ne (by omega)]
    rcases a3 with y | y
    · subst y
      refine ⟨0, z1, s00 p1 p2 0, _, by rw [cl, if_pos rfl], a2, fri_wr (by omega), Or.inl rfl, fun y => by omega, fun T R0 w hl hw hr => ?_⟩
      obtain ⟨Q', k1, k2⟩ := md T R0 w hl hw
      try dsimp only at k1
      exact ⟨_, k1.trans (if_pos rfl), k2, fri_wr (by omega), fun y => by omega⟩
    · subst y
      obtain ⟨i1, i2, i3⟩ := a4 rfl
      obtain ⟨f, f1, f2, f3⟩ := tx_start (p1 := p1) (p2 := p2) (p3 := z1 12) hL a2 (stD_lo hD (by omega))
      obtain ⟨x, z', R', e1, e2, e3, e4, e5⟩ := semi_pt (N := N) hN hL ham f2 i1
      refine ⟨x, z', s00 p1 p2 (z1 12), _, ?_, e2, fri_tr (fri_tr (fri_wr (by omega)) (fri_wr (by omega))) (fri_wr (by omega)), e3, fun y => ⟨(e4 y).1, kz_tr i3 (e4 y).2, stD_lo f3 (by omega), s00_V h1 h2 (by omega)⟩, fun T R0 w hl hw hr => ?_⟩
      · rw [cl, if_neg n1, f1]
        simp only [Option.bind_some]
        rw [e1]
        simp only [Option.bind_some]
        rw [grd_true _ (by rcases e3 with y | y <;> rw [y] <;> decide)]
      · obtain ⟨Q', k1, k2⟩ := md T R0 w hl hw
        try dsimp only at k1
        obtain ⟨Q2, d1, d2⟩ := e5 T R0 _ hl (MS_d (R' := up (rw w (m + 1)) 3 (J (z1 12))) ham k2)
        try dsimp only at d1
        refine ⟨_, k1.trans ((if_neg n1).trans d1), d2, fri_tr (fri_tr (fri_wr (by omega)) (fri_wr (by omega))) (fri_wr (by omega)), fun _ => ?_⟩
        rw [rw_wr_ne (by omega), rw_wr]
        have := rowM_set2 (x := z1 12) hr
        rw [show (s00 p1 p2 0).2.1 = CZ p1 p2 0 from rfl, cz_3] at this
        exact this
/-- the clock's statement -/
theorem jd_clock (hN : 1000 ≤ N) (hL : gcL S a) (ham : a ≤ m) (hC : CS S v a n B ln W z) (hz : zI n z) (hD : stD S v (a + 3) (s00 10 0 0)) (ho : wdZ B z (ln 10) (W 10) = 1) :
    JD S a m n B ln W v z (s00 0 0 0) (F_tx_readClock N (a + 1) S v) (fun T w => (F_gm_readClock N m T w).bind fun (x2, w3) => if x2 = J 0 then some (J 0, w3) else F_gm_readEnd N m T w3) (fun z' => kz z z') := by
  have n1 : ¬ J 1 = J 0 := by decide
  have z8 : z 8 ≠ 0 := by rw [(wdZ_B (B := B) (z := z) (len := ln 10) (X := W 10)).2 ho]; decide
  obtain ⟨R1, a1, C1⟩ := tx_advS (N := N) hN hL hC (zI_10 hz)
  obtain ⟨I1, K1⟩ := ad_I hC.1.2.1 hz z8
  obtain ⟨x, z2, R2, b1, b2, b3, b4, b5⟩ := jt_num (lo := 10) (hi := 999) (N := N) hN hL ham C1 I1 ⟨by decide, by decide⟩
  rw [wr_wr] at b1 b2
  rcases b3 with y | y
  · subst y
    refine ⟨0, z2, s00 0 0 0, _, ?_, b2, fri_wr (by omega), Or.inl rfl, fun y => by omega, fun T R0 w hl hw hr => ?_⟩
    · unfold F_tx_readClock
      rw [grd_true _ hL.2.1.1, a1]
      simp only [Option.bind_some]
      rw [b1]
      rfl
    · obtain ⟨Q1, k1, k2⟩ := (gm_acceptS (N := N) (j := 10) hN hl ham hw hz (by decide)).2 ho
      obtain ⟨Q2, d1, d2, -⟩ := b5 T R0 _ hl k2
      try dsimp only at d1
      rw [wr_wr] at d1 d2
      refine ⟨_, ?_, d2, fri_wr (by omega), fun y => by omega⟩
      show (F_gm_readClock N m T w).bind _ = _
      unfold F_gm_readClock
      rw [grd_true _ hl.1, k1]
      simp only [Option.bind_some]
      rw [if_neg n1, d1]
      rfl
  · subst y
    obtain ⟨i1, i2, i3⟩ := b4 rfl
    have j12 : gi (wr v (a + 1) R2) (a + 1) 12 = J (z2 12) := by rw [gi_rw]; exact b2.2.2.2 12 (by decide) (by decide)
    have w11 := tx_word (N := N) (j := 11) hN hL b2 i1 (by decide)
    have wB := (wdZ_B (B := B) (z := z2) (len := ln 11) (X := W 11))
    have cl : F_tx_readClock N (a + 1) S v = if J (wdZ B z2 (ln 11) (W 11)) = J 0 then K_tx_readClock_52 N S (wr v (a + 1) R2) (a + 1) (J (z2 12)) (J 0) (J 0) else (F_tx_takeSigned N (a + 1) (J 99) S (wr v (a + 1) R2)).bind fun (x30, w31) => (if x30 = (J 0) then some (((J 0), w31)) else K_tx_readClock_52 N S w31 (a + 1) (J (z2 12)) (gi w31 (a + 1) 12) (J 0)) := by
      unfold F_tx_readClock
      rw [grd_true _ hL.2.1.1, a1]
      simp only [Option.bind_some]
      rw [b1]
      simp only [Option.bind_some]
      rw [if_neg n1, w11]
      simp only [Option.bind_some]
      rw [j12]
    -- the model behind the tick's length
    have md : ∀ (T : shp) (R0 : Nat → Int32) (w : vl), mdL T m → MS T w a m n B ln W R0 z → rwM (rw w (m + 1)) (s00 0 0 0) → ∃ w2, MS T w2 a m n B ln W R0 z2 ∧ rwM (rw w2 (m + 1)) (s00 (z2 12) 0 0) ∧ fri m 2 w w2 ∧ F_gm_readClock N m T w = (F_gm_accepts N m (kad T 11) T w2).bind fun (x14, w15) => (if x14 = (J 0) then K_gm_readClock_80 N T w15 m else (F_gm_readsSigned N m (J 99) T w15).bind fun (x25, w26) => (if x25 = (J 0) then some (((J 0), w26)) else lt (si w26 (m + 1) 2 (gi w26 m 26)) fun w27 => K_gm_readClock_80 N T w27 m)) := by
      intro T R0 w hl hw hr
      obtain ⟨Q1, k1, k2⟩ := (gm_acceptS (N := N) (j := 10) hN hl ham hw hz (by decide)).2 ho
      obtain ⟨Q2, d1, d2, d3⟩ := b5 T R0 _ hl k2
      try dsimp only at d1
      rw [wr_wr] at d1 d2
      have ne1 : m ≠ m + 1 := by omega
      have ne2 : m + 1 ≠ m := by omega
      refine ⟨wr (wr w m Q2) (m + 1) (up (up (rw w (m + 1)) 1 (J (z2 12))) 9 (J (z2 12))), MS_d ham d2, ?_, fri_tr (fri_wr (by omega)) (fri_wr (by omega)), ?_⟩
      · rw [rw_wr]
        have := rowM_c9 (x := z2 12) (rowM_c1 (x := z2 12) hr)
        rw [show (s00 0 0 0).2.1 = CZ 0 0 0 from rfl, cz_1] at this
        exact this
      · unfold F_gm_readClock
        rw [grd_true _ hl.1, k1]
        simp only [Option.bind_some]
        rw [if_neg n1, d1]
        simp only [Option.bind_some]
        rw [if_neg n1, hl.2.1]
        simp only [Option.bind_some]
        rw [grd_true _ hl.2.2.1]
        simp only [lt_def, si_wr, gi_x, rw_wr, wr_wr, rw_wr_ne ne1, rw_wr_ne ne2, d3 rfl]
    rcases wB.1 with o | o
    · obtain ⟨x, z', s', v', e1, e2, e3, e4, e5, e6⟩ := jd_52 (p1 := z2 12) (p2 := 0) (N := N) hN hL ham b2 i1 (stD_lo hD (by omega)) i2 (by decide)
      refine ⟨x, z', s', v', ?_, e2, fri_tr (fri_wr (by omega)) e3, e4, fun y => ?_, fun T R0 w hl hw hr => ?_⟩
      · rw [cl, o, if_pos rfl, e1]
      · obtain ⟨y1, y2, y3⟩ := e5 y
        exact ⟨y1, kz_tr (kz_tr K1 i3) y2, y3⟩
      · obtain ⟨w2, m1, m2, m3, m4⟩ := md T R0 w hl hw hr
        try dsimp only at m1
        obtain ⟨w', l1, l2, l3, l4⟩ := e6 T R0 w2 hl m1 m2
        try dsimp only at l1
        refine ⟨w', ?_, l2, fri_tr m3 l3, l4⟩
        show (F_gm_readClock N m T w).bind _ = _
        rw [m4, (gm_acceptS hN hl ham m1 i1 (by decide)).1 o]
        simp only [Option.bind_some, if_true]
        exact l1
    · have z28 : z2 8 ≠ 0 := by rw [wB.2 o]; decide
      obtain ⟨x, z3, R3, f1, f2, f3, f4, f5⟩ := jt_sgn (hi := 99) (N := N) hN hL ham b2 i1 z28 (by decide)
      rw [wr_wr] at f1 f2
      have md2 : ∀ (T : shp) (R0 : Nat → Int32) (w : vl), mdL T m → MS T w a m n B ln W R0 z → rwM (rw w (m + 1)) (s00 0 0 0) → ∃ w3, MS T w3 a m n B ln W R0 z3 ∧ (x = 1 → rwM (rw w3 (m + 1)) (s00 (z2 12) (z3 12) 0)) ∧ fri m 2 w w3 ∧ F_gm_readClock N m T w = if J x = J 0 then some (J 0, w3) else K_gm_readClock_80 N T w3 m := by
        intro T R0 w hl hw hr
        obtain ⟨w2, m1, m2, m3, m4⟩ := md T R0 w hl hw hr
        try dsimp only at m1
        obtain ⟨Q3, k1, k2⟩ := (gm_acceptS (N := N) (j := 11) hN hl ham m1 i1 (by decide)).2 o
        obtain ⟨Q4, l1, l2, l3⟩ := f5 T R0 _ hl k2
        try dsimp only at l1
        rw [wr_wr] at l1 l2
        rw [m4, k1]
        simp only [Option.bind_some]
        rw [if_neg n1, l1]
        simp only [Option.bind_some]
        rcases f3 with y | y
        · refine ⟨wr w2 m Q4, l2, fun y' => by omega, fri_tr m3 (fri_wr (by omega)), ?_⟩
          rw [y, if_pos rfl, if_pos rfl]
        · have ne1 : m + 1 ≠ m := by omega
          refine ⟨wr (wr w2 m Q4) (m + 1) (up (rw w2 (m + 1)) 2 (J (z3 12))), MS_d ham l2, fun _ => ?_, fri_tr m3 (fri_tr (fri_wr (by omega)) (fri_wr (by omega))), ?_⟩
          · rw [rw_wr]
            have := rowM_set1 (x := z3 12) m2
            rw [show (s00 (z2 12) 0 0).2.1 = CZ (z2 12) 0 0 from rfl, cz_2] at this
            exact this
          · rw [y, if_neg n1, if_neg n1]
            simp only [lt_def, si_wr, gi_x, rw_wr, rw_wr_ne ne1, l3 y]
      rcases f3 with y | y
      · subst y
        refine ⟨0, z3, s00 0 0 0, _, ?_, f2, fri_wr (by omega), Or.inl rfl, fun y => by omega, fun T R0 w hl hw hr => ?_⟩
        · rw [cl, o, if_neg n1, f1]
          rfl
        · obtain ⟨w3, m1, m2, m3, m4⟩ := md2 T R0 w hl hw hr
          try dsimp only at m1
          refine ⟨w3, ?_, m1, m3, fun y => by omega⟩
          show (F_gm_readClock N m T w).bind _ = _
          rw [m4, if_pos rfl]
          rfl
      · subst y
        obtain ⟨y1, y2, y3⟩ := f4 rfl
        have q12 : gi (wr v (a + 1) R3) (a + 1) 12 = J (z3 12) := by rw [gi_rw]; exact f2.2.2.2 12 (by decide) (by decide)
        obtain ⟨x, z', s', v', e1, e2, e3, e4, e5, e6⟩ := jd_52 (p1 := z2 12) (p2 := z3 12) (N := N) hN hL ham f2 y1 (stD_lo hD (by omega)) i2 y2
        refine ⟨x, z', s', v', ?_, e2, fri_tr (fri_wr (by omega)) e3, e4, fun y => ?_, fun T R0 w hl hw hr => ?_⟩
        · rw [cl, o, if_neg n1, f1]
          simp only [Option.bind_some]
          rw [if_neg n1, q12, e1]
        · obtain ⟨u1, u2, u3⟩ := e5 y
          exact ⟨u1, kz_tr (kz_tr (kz_tr K1 i3) y3) u2, u3⟩
        · obtain ⟨w3, m1, m2, m3, m4⟩ := md2 T R0 w hl hw hr
          try dsimp only at m1
          obtain ⟨w', l1, l2, l3, l4⟩ := e6 T R0 w3 hl m1 (m2 rfl)
          try dsimp only at l1
          refine ⟨w', ?_, l2, fri_tr m3 l3, l4⟩
          show (F_gm_readClock N m T w).bind _ = _
          rw [m4, if_neg n1]
          exact l1
end CLOCK2
