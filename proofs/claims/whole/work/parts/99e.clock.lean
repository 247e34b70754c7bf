/-! The text that is read: numbers with signs, the clock. -/
section CLOCKS
variable {S : shp} {v w : vl} {a m N n : Nat} {B : Nat → Int} {z : Nat → Int} {R0 R Q : Nat → Int32} {ln : Nat → Nat} {W : Nat → Nat → Int} {h c g t p : Nat → Int} {M : Nat → Nat → Int}
/-- what both readers do, alike: the class at v, the model at every heap that says zm -/
def JT (S : shp) (a m n : Nat) (B : Nat → Int) (ln : Nat → Nat) (W : Nat → Nat → Int) (v : vl) (zm : Nat → Int) (cF : Option (Int32 × vl)) (mF : shp → vl → Option (Int32 × vl)) (P : (Nat → Int) → Prop) : Prop := ∃ x z' R', cF = some (J x, wr v (a + 1) R') ∧ CS S (wr v (a + 1) R') a n B ln W z' ∧ (x = 0 ∨ x = 1) ∧ (x = 1 → zI n z' ∧ P z') ∧ ∀ (T : shp) (R0 : Nat → Int32) (w : vl), mdL T m → MS T w a m n B ln W R0 zm → ∃ Q', mF T w = some (J x, wr w m Q') ∧ MS T (wr w m Q') a m n B ln W R0 z' ∧ (x = 1 → Q' 26 = J (z' 12))
def kz (z z' : Nat → Int) : Prop := (z' 5 = z 5 ∧ z' 6 = z 6 ∧ z' 7 = z 7) ∧ z 9 < z' 9
theorem adp_I {x : Int} (hB : ∀ j, j < n → 0 ≤ B j ∧ B j ≤ 255) (hz : zI n z) (h8 : z 8 ≠ 0) : zI n (adZ B n (p12 x z)) ∧ kz z (adZ B n (p12 x z)) ∧ adZ B n (p12 x z) 12 = x := by
  obtain ⟨z2, z9, z8, z11, z5, z0⟩ := hz
  have h10 : 0 ≤ (p12 x z) 10 ∧ (p12 x z) 10 ≤ n := by show 0 ≤ z 10 ∧ z 10 ≤ n; omega
  obtain ⟨i1, i2⟩ := adZ_I (z := p12 x z) hB z2 h10 z5
  have i2' : z 10 ≤ adZ B n (p12 x z) 9 := i2
  have := z0 h8
  exact ⟨i1, ⟨⟨adZ_o (by decide), adZ_o (by decide), adZ_o (by decide)⟩, by omega⟩, adZ_o (by decide)⟩
theorem ad_I (hB : ∀ j, j < n → 0 ≤ B j ∧ B j ≤ 255) (hz : zI n z) (h8 : z 8 ≠ 0) : zI n (adZ B n z) ∧ kz z (adZ B n z) := by
  obtain ⟨z2, z9, z8, z11, z5, z0⟩ := hz
  have h10 : 0 ≤ z 10 ∧ z 10 ≤ n := by omega
  obtain ⟨i1, i2⟩ := adZ_I (z := z) hB z2 h10 z5
  have := z0 h8
  exact ⟨i1, ⟨⟨adZ_o (by decide), adZ_o (by decide), adZ_o (by decide)⟩, by omega⟩⟩
theorem kz_tr {z1 z2 : Nat → Int} (h1 : kz z z1) (h2 : kz z1 z2) : kz z z2 := ⟨⟨h2.1.1.trans h1.1.1, h2.1.2.1.trans h1.1.2.1, h2.1.2.2.trans h1.1.2.2⟩, Int.lt_trans h1.2 h2.2⟩
theorem jt_num {lo hi : Int} (hN : 1000 ≤ N) (hL : gcL S a) (ham : a ≤ m) (hC : CS S v a n B ln W z) (hz : zI n z) (hr : tnR lo hi) :
    JT S a m n B ln W v z (F_tx_takeNumber N (a + 1) (J lo) (J hi) S v) (fun T w => F_gm_reads N m (J lo) (J hi) T w) (fun z' => (lo ≤ z' 12 ∧ z' 12 ≤ hi) ∧ kz z z') := by
  obtain ⟨t1, t2⟩ := tx_take (N := N) hN hL hC hz hr
  by_cases o : okN lo hi z
  · obtain ⟨R', e1, e2⟩ := t1 o
    obtain ⟨i1, i2, i3⟩ := adp_I (x := z 11) hC.1.2.1 hz (by rw [o.1]; decide)
    refine ⟨1, _, R', e1, e2, Or.inr rfl, fun _ => ⟨i1, ⟨by rw [i3]; exact o.2, i2⟩⟩, fun T R0 w hl hw => ?_⟩
    obtain ⟨Q', f1, f2, f3⟩ := (gm_readsS (N := N) hN hl ham hw hz hr).1 o
    exact ⟨Q', f1, f2, fun _ => by rw [i3]; exact f3⟩
  · obtain ⟨R', e1, e2⟩ := t2 o
    refine ⟨0, _, R', e1, e2, Or.inl rfl, fun y => by omega, fun T R0 w hl hw => ?_⟩
    obtain ⟨Q', f1, f2⟩ := (gm_readsS (N := N) hN hl ham hw hz hr).2 o
    exact ⟨Q', f1, f2, fun y => by omega⟩
/-- its sign -/
theorem CS_12 {x : Int} (h : CS S v a n B ln W z) : CS S (wr v (a + 1) (up (rw v (a + 1)) 12 (J x))) a n B ln W (p12 x z) := by
  have hR := h.2.2
  refine CS_wr h ⟨by rw [up_ne (by decide)]; exact hR.1, fun k h2 h13 => ?_⟩
  unfold p12
  by_cases k12 : k = 12
  · subst k12; rw [up_same, if_pos rfl]
  · rw [if_neg k12, up_ne k12]; exact hR.2 k h2 h13
theorem jt_26 {hi b : Int} (hN : 1000 ≤ N) (hL : gcL S a) (ham : a ≤ m) (hC : CS S v a n B ln W z) (hz : zI n z) (hb : b = 0 ∨ b = 1) (hh : 0 ≤ hi ∧ hi ≤ 1000) :
    JT S a m n B ln W v z (K_tx_takeSigned_26 N S v (a + 1) (J hi) (J b)) (fun T w => K_gm_readsSigned_22 N T w m (J hi) (J b)) (fun z' => (-hi ≤ z' 12 ∧ z' 12 ≤ hi) ∧ kz z z') := by
  obtain ⟨x, z', R', e1, e2, e3, e4, e5⟩ := jt_num (lo := 0) (hi := hi) (N := N) hN hL ham hC hz ⟨by decide, by omega⟩
  have n1 : ¬ J 1 = J 0 := by decide
  have j12 : gi (wr v (a + 1) R') (a + 1) 12 = J (z' 12) := by rw [gi_rw]; exact e2.2.2.2 12 (by decide) (by decide)
  rcases e3 with x0 | x1
  · subst x0
    refine ⟨0, z', R', ?_, e2, Or.inl rfl, fun y => by omega, fun T R0 w hl hw => ?_⟩
    · unfold K_tx_takeSigned_26
      rw [grd_true _ hL.2.1.1, e1]
      rfl
    · obtain ⟨Q', f1, f2, -⟩ := e5 T R0 w hl hw
      try dsimp only at f1
      refine ⟨Q', ?_, f2, fun y => by omega⟩
      show K_gm_readsSigned_22 N T w m (J hi) (J b) = _
      unfold K_gm_readsSigned_22
      rw [grd_true _ hl.1, f1]
      rfl
  · subst x1
    obtain ⟨i1, ⟨i2, i3⟩, i4⟩ := e4 rfl
    -- the value with its sign
    obtain ⟨σ, hσ⟩ : ∃ σ : Int, σ = if b = 0 then z' 12 else -(z' 12) := ⟨_, rfl⟩
    have hs := CS_12 (x := σ) e2
    rw [wr_wr, rw_wr] at hs
    refine ⟨1, p12 σ z', _, ?_, hs, Or.inr rfl, fun _ => ⟨i1, ?_, i4⟩, fun T R0 w hl hw => ?_⟩
    · unfold K_tx_takeSigned_26
      rw [grd_true _ hL.2.1.1, e1]
      simp only [Option.bind_some]
      rw [if_neg n1, j12]
      rcases hb with b0 | b1
      · rw [if_pos (by rw [b0])]
        simp only [lt_def, si_wr, rw_wr, wr_wr]
        rw [hσ, if_pos b0]
      · rw [if_neg (by rw [b1]; decide)]
        simp only [lt_def, si_wr, rw_wr, wr_wr]
        rw [hσ, if_neg (by omega), J_neg]
    · show -hi ≤ σ ∧ σ ≤ hi
      rw [hσ]
      split <;> omega
    · obtain ⟨Q', f1, f2, f3⟩ := e5 T R0 w hl hw
      try dsimp only at f1
      have j26 : gi (wr w m Q') m 26 = J (z' 12) := by rw [gi_rw, rw_wr]; exact f3 rfl
      have g2 := MS_26 (x := J σ) ham f2
      rw [wr_wr, rw_wr] at g2
      refine ⟨_, ?_, g2, fun _ => up_same⟩
      show K_gm_readsSigned_22 N T w m (J hi) (J b) = _
      unfold K_gm_readsSigned_22
      rw [grd_true _ hl.1, f1]
      simp only [Option.bind_some]
      rw [if_neg n1, j26]
      rcases hb with b0 | b1
      · rw [if_pos (by rw [b0])]
        simp only [lt_def, si_wr, rw_wr, wr_wr]
        rw [hσ, if_pos b0]
      · rw [if_neg (by rw [b1]; decide)]
        simp only [lt_def, si_wr, rw_wr, wr_wr]
        rw [hσ, if_neg (by omega), J_neg]
/-- the class has one token more to pass -/
theorem jt_sgn {hi : Int} (hN : 1000 ≤ N) (hL : gcL S a) (ham : a ≤ m) (hC : CS S v a n B ln W z) (hz : zI n z) (h8 : z 8 ≠ 0) (hh : 0 ≤ hi ∧ hi ≤ 1000) :
    JT S a m n B ln W v (adZ B n z) (F_tx_takeSigned N (a + 1) (J hi) S v) (fun T w => F_gm_readsSigned N m (J hi) T w) (fun z' => (-hi ≤ z' 12 ∧ z' 12 ≤ hi) ∧ kz z z') := by
  obtain ⟨R1, a1, C1⟩ := tx_advS (N := N) hN hL hC (zI_10 hz)
  obtain ⟨I1, K1⟩ := ad_I hC.1.2.1 hz h8
  have z8 := I1.2.2.1
  have r8 : gi (wr v (a + 1) R1) (a + 1) 8 = J (adZ B n z 8) := by rw [gi_rw]; exact C1.2.2.2 8 (by decide) (by decide)
  have e8 : (J (adZ B n z 8) = J 4) ↔ adZ B n z 8 = 4 := J_eq (by omega) (by decide)
  by_cases o4 : adZ B n z 8 = 4
  · obtain ⟨R2, a2, C2⟩ := tx_advS (N := N) hN hL C1 (zI_10 I1)
    rw [wr_wr] at a2 C2
    obtain ⟨I2, K2⟩ := ad_I hC.1.2.1 I1 (by omega)
    obtain ⟨x, z', R', e1, e2, e3, e4, e5⟩ := jt_26 (hi := hi) (b := 1) (N := N) hN hL ham C2 I2 (Or.inr rfl) hh
    rw [wr_wr] at e1 e2
    refine ⟨x, z', R', ?_, e2, e3, fun y => ?_, fun T R0 w hl hw => ?_⟩
    · unfold F_tx_takeSigned
      rw [grd_true _ hL.2.1.1, a1]
      simp only [Option.bind_some]
      rw [r8, if_pos (e8.mpr o4), a2]
      simp only [Option.bind_some]
      exact e1
    · obtain ⟨i1, i2, i3⟩ := e4 y
      exact ⟨i1, i2, kz_tr (kz_tr K1 K2) i3⟩
    · obtain ⟨Q2, b1, D2, -⟩ := gm_advS (N := N) hN hl ham hw (zI_10 I1)
      obtain ⟨Q', f1, f2, f3⟩ := e5 T R0 _ hl D2
      try dsimp only at f1
      rw [wr_wr] at f1 f2
      refine ⟨Q', ?_, f2, f3⟩
      have g25 : gi w m 25 = rw w m 25 := gi_rw
      show F_gm_readsSigned N m (J hi) T w = _
      unfold F_gm_readsSigned
      rw [grd_true _ hl.1, g25, if_pos ((m25 hw.2.2 z8 (by decide)).mpr o4), b1]
      simp only [Option.bind_some]
      exact f1
  · obtain ⟨x, z', R', e1, e2, e3, e4, e5⟩ := jt_26 (hi := hi) (b := 0) (N := N) hN hL ham C1 I1 (Or.inl rfl) hh
    rw [wr_wr] at e1 e2
    refine ⟨x, z', R', ?_, e2, e3, fun y => ?_, fun T R0 w hl hw => ?_⟩
    · unfold F_tx_takeSigned
      rw [grd_true _ hL.2.1.1, a1]
      simp only [Option.bind_some]
      rw [r8, if_neg (fun y => o4 (e8.mp y))]
      exact e1
    · obtain ⟨i1, i2, i3⟩ := e4 y
      exact ⟨i1, i2, kz_tr K1 i3⟩
    · obtain ⟨Q', f1, f2, f3⟩ := e5 T R0 _ hl hw
      try dsimp only at f1
      refine ⟨Q', ?_, f2, f3⟩
      have g25 : gi w m 25 = rw w m 25 := gi_rw
      show F_gm_readsSigned N m (J hi) T w = _
      unfold F_gm_readsSigned
      rw [grd_true _ hl.1, g25, if_neg (fun y => o4 ((m25 hw.2.2 z8 (by decide)).mp y))]
      exact f1
-- the draft
def dV (s : sta) : Prop := sV s ∧ s.1 0 = 0 ∧ s.1 5 = 0 ∧ (s.2.2.1 6 = s.2.2.1 2 ∧ s.2.2.1 7 = s.2.2.1 3 ∧ s.2.2.1 5 = 0) ∧ lsZ s.2.2.1 s.2.2.2.1 ≤ 999999
def stD (S : shp) (v : vl) (b : Nat) (s : sta) : Prop := stM S v b s.1 s.2.1 s.2.2.1 s.2.2.2.1 s.2.2.2.2.1
def JD (S : shp) (a m n : Nat) (B : Nat → Int) (ln : Nat → Nat) (W : Nat → Nat → Int) (v : vl) (zm : Nat → Int) (s : sta) (cF : Option (Int32 × vl)) (mF : shp → vl → Option (Int32 × vl)) (P : (Nat → Int) → Prop) : Prop := ∃ x z' s' v', cF = some (J x, v') ∧ CS S v' a n B ln W z' ∧ fri (a + 1) 8 v v' ∧ (x = 0 ∨ x = 1) ∧ (x = 1 → zI n z' ∧ P z' ∧ stD S v' (a + 3) s' ∧ dV s') ∧ ∀ (T : shp) (R0 : Nat → Int32) (w : vl), mdL T m → MS T w a m n B ln W R0 zm → rwM (rw w (m + 1)) s → ∃ w', mF T w = some (J x, w') ∧ MS T w' a m n B ln W R0 z' ∧ fri m 2 w w' ∧ (x = 1 → rwM (rw w' (m + 1)) s')
theorem stD_lo {b x : Nat} {f : Nat → Int32} {s : sta} (h : stD S v b s) (hx : x < b) : stD S (wr v x f) b s := by
  obtain ⟨l, hh, hc, hW⟩ := h
  exact ⟨l, by rw [rw_wr_ne (by omega)]; exact hh, by rw [rw_wr_ne (by omega)]; exact hc, sgW_ne hW (by omega)⟩
/-- the model's draft moves, its reader stays -/
theorem MS_d {R' : Nat → Int32} (ham : a ≤ m) (h : MS S w a m n B ln W R0 z) : MS S (wr w (m + 1) R') a m n B ln W R0 z := by
  obtain ⟨⟨c1, c2, c3⟩, hw, hR⟩ := h
  refine ⟨⟨c1, c2, fun i hi => by rw [rw_wr_ne (by omega)]; exact c3 i hi⟩, wdS_eq hw (fun b hb => rw_wr_ne (by omega)), by rw [rw_wr_ne (by omega)]; exact hR⟩
/-- the class's draft moves, its reader stays -/
theorem CS_d {x : Nat} {f : Nat → Int32} (h : CS S v a n B ln W z) (hx : a + 3 ≤ x) : CS S (wr v x f) a n B ln W z := by
  obtain ⟨⟨c1, c2, c3⟩, hw, hR⟩ := h
  refine ⟨⟨c1, c2, fun i hi => by rw [rw_wr_ne (by omega)]; exact c3 i hi⟩, wdS_eq hw (fun b hb => rw_wr_ne (by omega)), by rw [rw_wr_ne (by omega)]; exact hR⟩
/-- a statement's end -/
theorem jd_semi {zm : Nat → Int} {s : sta} {cF : Option (Int32 × vl)} {mF : shp → vl → Option (Int32 × vl)} {P : (Nat → Int) → Prop} (hN : 1000 ≤ N) (hL : gcL S a) (ham : a ≤ m) (hP : ∀ z', zI n z' → P z' → z' 8 ≠ 0 → P (adZ B n z')) (hB : ∀ j, j < n → 0 ≤ B j ∧ B j ≤ 255)
    (H : JD S a m n B ln W v zm s cF mF P) :
    JD S a m n B ln W v zm s (cF.bind fun (x, w) => (if x = (J 0) then some (((J 0), w)) else (F_tx_takeSemicolon N (a + 1) S w).bind fun (x', w') => (if x' = (J 0) then some (((J 0), w')) else some (((J 1), w')))))
      (fun T w => (mF T w).bind fun (x, w3) => if x = J 0 then some (J 0, w3) else F_gm_readEnd N m T w3) P := by
  obtain ⟨x, z', s', v', e1, e2, e3, e4, e5, e6⟩ := H
  have n1 : ¬ J 1 = J 0 := by decide
  rcases e4 with x0 | x1
  · subst x0
    refine ⟨0, z', s', v', by rw [e1]; rfl, e2, e3, Or.inl rfl, fun y => by omega, fun T R0 w hl hw hr => ?_⟩
    obtain ⟨w', f1, f2, f3, -⟩ := e6 T R0 w hl hw hr
    try dsimp only at f1
    exact ⟨w', by show (mF T w).bind _ = _; rw [f1]; rfl, f2, f3, fun y => by omega⟩
  · subst x1
    obtain ⟨i1, i2, i3, i4⟩ := e5 rfl
    obtain ⟨t1, t2⟩ := tx_semi (N := N) hN hL e2 i1
    by_cases o : z' 8 = 3
    · obtain ⟨R', g1, g2⟩ := t1 o
      obtain ⟨I1, -⟩ := ad_I hB i1 (by omega)
      refine ⟨1, adZ B n z', s', _, ?_, g2, fri_tr e3 (fri_wr (by omega)), Or.inr rfl, fun _ => ⟨I1, hP z' i1 i2 (by omega), stD_lo i3 (by omega), i4⟩, fun T R0 w hl hw hr => ?_⟩
      · rw [e1]
        simp only [Option.bind_some]
        rw [if_neg n1, g1]
        simp only [Option.bind_some]
        rw [if_neg n1]
      · obtain ⟨w', f1, f2, f3, f4⟩ := e6 T R0 w hl hw hr
        try dsimp only at f1
        obtain ⟨Q', k1, k2⟩ := (gm_semi (N := N) hN hl ham f2 i1).1 o
        refine ⟨_, ?_, k2, fri_tr f3 (fri_wr (by omega)), fun _ => by rw [rw_wr_ne (by omega)]; exact f4 rfl⟩
        show (mF T w).bind _ = _
        rw [f1]
        simp only [Option.bind_some]
        rw [if_neg n1, k1]
    · obtain ⟨R', g1, g2⟩ := t2 o
      refine ⟨0, _, s', _, ?_, g2, fri_tr e3 (fri_wr (by omega)), Or.inl rfl, fun y => by omega, fun T R0 w hl hw hr => ?_⟩
      · rw [e1]
        simp only [Option.bind_some]
        rw [if_neg n1, g1]
        rfl
      · obtain ⟨w', f1, f2, f3, f4⟩ := e6 T R0 w hl hw hr
        try dsimp only at f1
        obtain ⟨Q', k1, k2⟩ := (gm_semi (N := N) hN hl ham f2 i1).2 o
        refine ⟨_, ?_, k2, fri_tr f3 (fri_wr (by omega)), fun y => by omega⟩
        show (mF T w).bind _ = _
        rw [f1]
        simp only [Option.bind_some]
        rw [if_neg n1, k1]
-- the clock
def CZ (p1 p2 p3 : Int) : Nat → Int := fun k => if k = 0 then p1 else if k = 1 then p2 else if k = 2 then p3 else if k = 4 then p1 else 0
theorem cz_1 {p1 : Int} : upZ (upZ (CZ 0 0 0) 0 p1) 4 p1 = CZ p1 0 0 := by
  funext k
  unfold upZ CZ
  by_cases k4 : k = 4
  · subst k4; rfl
  · rw [if_neg k4]
    by_cases k0 : k = 0
    · rw [if_pos k0, if_pos k0]
    · rw [if_neg k0, if_neg k0, if_neg k0, if_neg k4, if_neg k4]
theorem cz_2 {p1 p2 : Int} : upZ (CZ p1 0 0) 1 p2 = CZ p1 p2 0 := by
  funext k
  unfold upZ CZ
  by_cases k1 : k = 1
  · subst k1; rfl
  · rw [if_neg k1, if_neg k1, if_neg k1]
theorem cz_3 {p1 p2 p3 : Int} : upZ (CZ p1 p2 0) 2 p3 = CZ p1 p2 p3 := by
  funext k
  unfold upZ CZ
  by_cases k2 : k = 2
  · subst k2; rfl
  · rw [if_neg k2, if_neg k2, if_neg k2]
theorem CZ_V {p1 p2 p3 : Int} (h1 : 10 ≤ p1 ∧ p1 ≤ 999) (h2 : -99 ≤ p2 ∧ p2 ≤ 99) (h3 : -1 ≤ p3 ∧ p3 ≤ 1) : ckV (CZ p1 p2 p3) := by
  have e0 : CZ p1 p2 p3 0 = p1 := rfl
  have e1 : CZ p1 p2 p3 1 = p2 := rfl
  have e2 : CZ p1 p2 p3 2 = p3 := rfl
  have e3 : CZ p1 p2 p3 3 = 0 := rfl
  have e4 : CZ p1 p2 p3 4 = p1 := rfl
  have e5 : CZ p1 p2 p3 5 = 0 := rfl
  have e6 : CZ p1 p2 p3 6 = 0 := rfl
  unfold ckV ckI
  rw [e0, e1, e2, e3, e4, e5, e6]
  omega
theorem ck_startS {b : Nat} {p1 p2 p3 : Int} (hk : kin S b = some (0, 0)) : ∃ f, F_ck_start b (J p1) (J p2) (J p3) S v = some (wr v b f) ∧ ag 7 f (CZ p1 p2 p3) := by
  refine ⟨up (up (up (up (up (up (up (rw v b) 0 (J p1)) 1 (J p2)) 2 (J p3)) 3 (J 0)) 4 (J p1)) 5 (J 0)) 6 (J 0), ?_, fun k hk7 => ?_⟩
  · unfold F_ck_start
    rw [grd_true _ hk]
    simp only [lt_def, si_wr, rw_wr, wr_wr]
  · match k, hk7 with
    | 0, _ => rfl
    | 1, _ => rfl
    | 2, _ => rfl
    | 3, _ => rfl
    | 4, _ => rfl
    | 5, _ => rfl
    | 6, _ => rfl
    | k + 7, h => exact absurd h (by omega)
def h00 : Nat → Int := fun k => if k = 1 then 10 else if k = 2 then 1 else 0
def g00 : Nat → Int := fun k => if k = 1 then -1 else if k = 4 then 1 else 0
def s00 (p1 p2 p3 : Int) : sta := (h00, CZ p1 p2 p3, g00, fun _ => 0, fun _ => 0, fun _ _ => 0)
theorem s00_V {p1 p2 p3 : Int} (h1 : 10 ≤ p1 ∧ p1 ≤ 999) (h2 : -99 ≤ p2 ∧ p2 ≤ 99) (h3 : -1 ≤ p3 ∧ p3 ≤ 1) : dV (s00 p1 p2 p3) := by
  have J0 : sgJ 0 (fun _ => 0) (fun _ => 0) g00 := by
    refine ⟨⟨by decide, fun _ => rfl, fun y => absurd y (by decide), by decide, by decide, by decide⟩, by decide, fun i hi => ?_, fun i h1 h2 => ?_⟩
    · have hi' : (i : Int) < 0 := hi
      omega
    · have hi' : (i : Int) < 0 := h2
      omega
  have hh : hV h00 := by unfold hV; decide
  have g6 : 0 ≤ g00 6 ∧ g00 6 ≤ g00 2 := by decide
  have g7 : 0 ≤ g00 7 ∧ g00 7 ≤ g00 3 := by decide
  have h0 : (0 : Int) ≤ h00 0 := by decide
  refine ⟨⟨hh, CZ_V h1 h2 h3, ⟨⟨0, J0, by decide, by decide⟩, g6, g7⟩, ⟨0, J0, by decide, h0⟩, ?_, fun i hi => ?_⟩, rfl, rfl, ⟨rfl, rfl, rfl⟩, ?_⟩
  · show (0 : Int) < p1
    omega
  · have hi' : (i : Int) < 0 := hi
    omega
  · show lsZ g00 (fun _ => 0) ≤ 999999
    unfold lsZ
    rw [if_neg (by decide)]
    decide
theorem rowM_c1 {x : Int} (hR : rowM R h c g t p M) : rowM (up R 1 (J x)) h (upZ c 0 x) g t p M := by
  refine rowM_set hR (by decide) rfl rfl (fun k k23 hk => ?_)
  match k, k23, hk with
  | 0, _, _ => rfl
  | 1, _, h => exact absurd rfl h
  | 2, _, _ => rfl
  | 3, _, _ => rfl
  | 4, _, _ => rfl
  | 5, _, _ => rfl
  | 6, _, _ => rfl
  | 7, _, _ => rfl
  | 8, _, _ => rfl
  | 9, _, _ => rfl
  | 10, _, _ => rfl
  | 11, _, _ => rfl
  | 12, _, _ => rfl
  | 13, _, _ => rfl
  | 14, _, _ => rfl
  | 15, _, _ => rfl
  | 16, _, _ => rfl
  | 17, _, _ => rfl
  | 18, _, _ => rfl
  | 19, _, _ => rfl
  | 20, _, _ => rfl
  | 21, _, _ => rfl
  | 22, _, _ => rfl
  | k + 23, h, _ => exact absurd h (by omega)
theorem rowM_c9 {x : Int} (hR : rowM R h c g t p M) : rowM (up R 9 (J x)) h (upZ c 4 x) g t p M := by
  refine rowM_set hR (by decide) rfl rfl (fun k k23 hk => ?_)
  match k, k23, hk with
  | 0, _, _ => rfl
  | 1, _, _ => rfl
  | 2, _, _ => rfl
  | 3, _, _ => rfl
  | 4, _, _ => rfl
  | 5, _, _ => rfl
  | 6, _, _ => rfl
  | 7, _, _ => rfl
  | 8, _, _ => rfl
  | 9, _, h => exact absurd rfl h
  | 10, _, _ => rfl
  | 11, _, _ => rfl
  | 12, _, _ => rfl
  | 13, _, _ => rfl
  | 14, _, _ => rfl
  | 15, _, _ => rfl
  | 16, _, _ => rfl
  | 17, _, _ => rfl
  | 18, _, _ => rfl
  | 19, _, _ => rfl
  | 20, _, _ => rfl
  | 21, _, _ => rfl
  | 22, _, _ => rfl
  | k + 23, h, _ => exact absurd h (by omega)
end CLOCKS
