/-! The text that is read: the statements. -/
section STMTS
variable {S : shp} {v w : vl} {a m N n : Nat} {B : Nat → Int} {z : Nat → Int} {R0 R Q : Nat → Int32} {ln : Nat → Nat} {W : Nat → Nat → Int} {s : sta}
theorem jd_mono {zm : Nat → Int} {cF cF2 : Option (Int32 × vl)} {mF mF2 : shp → vl → Option (Int32 × vl)} {P P2 : (Nat → Int) → Prop} (H : JD S a m n B ln W v zm s cF mF P) (hc : ∀ (x : Int) (v' : vl), (x = 0 ∨ x = 1) → cF = some (J x, v') → cF2 = some (J x, v')) (hm : ∀ (T : shp) (R0 : Nat → Int32) (w : vl) (x : Int) (w' : vl), (x = 0 ∨ x = 1) → mdL T m → MS T w a m n B ln W R0 zm → mF T w = some (J x, w') → mF2 T w = some (J x, w')) (hP : ∀ z', P z' → P2 z') : JD S a m n B ln W v zm s cF2 mF2 P2 := by
  obtain ⟨x, z', s', v', e1, e2, e3, e4, e5, e6⟩ := H
  refine ⟨x, z', s', v', hc x v' e4 e1, e2, e3, e4, fun y => ?_, fun T R0 w hl hw hr => ?_⟩
  · obtain ⟨i1, i2, i3⟩ := e5 y
    exact ⟨i1, hP _ i2, i3⟩
  · obtain ⟨w', f1, f2⟩ := e6 T R0 w hl hw hr
    try dsimp only at f1
    exact ⟨w', hm T R0 w x w' e4 hl hw f1, f2⟩
/-- seen once -/
def q1Z (i : Nat) (z : Nat → Int) : Nat → Int := fun k => if k = i then 1 else z k
theorem q1_I {i : Nat} (hB : ∀ j, j < n → 0 ≤ B j ∧ B j ≤ 255) (hz : zI n z) (h8 : z 8 ≠ 0) (hi : i = 5 ∨ i = 6 ∨ i = 7) : zI n (adZ B n (q1Z i z)) ∧ z 9 < adZ B n (q1Z i z) 9 := by
  obtain ⟨z2, z9, z8, z11, z5, z0⟩ := hz
  have e2 : q1Z i z 2 = 0 := by unfold q1Z; rw [if_neg (by omega)]; exact z2
  have e10 : q1Z i z 10 = z 10 := by unfold q1Z; rw [if_neg (by omega)]
  obtain ⟨i1, i2⟩ := adZ_I (z := q1Z i z) hB e2 (by rw [e10]; omega) (by
    unfold q1Z
    refine ⟨?_, ?_, ?_⟩
    · split
      · exact Or.inr rfl
      · exact z5.1
    · split
      · exact Or.inr rfl
      · exact z5.2.1
    · split
      · exact Or.inr rfl
      · exact z5.2.2)
  rw [e10] at i2
  have := z0 h8
  exact ⟨i1, by omega⟩
theorem tx_once {i : Nat} (hN : 1000 ≤ N) (hL : gcL S a) (hC : CS S v a n B ln W z) (hz : zI n z) (hi : i = 5 ∨ i = 6 ∨ i = 7) : ∃ R', F_tx_advance N (a + 1) S (si v (a + 1) i (J 1)) = some (wr v (a + 1) R') ∧ CS S (wr v (a + 1) R') a n B ln W (adZ B n (q1Z i z)) := by
  have hR := hC.2.2
  have hC1 : CS S (wr v (a + 1) (up (rw v (a + 1)) i (J 1))) a n B ln W (q1Z i z) := by
    refine CS_wr hC ⟨by rw [up_ne (by omega)]; exact hR.1, fun k h2 h13 => ?_⟩
    unfold q1Z
    by_cases ki : k = i
    · subst ki; rw [up_same, if_pos rfl]
    · rw [if_neg ki, up_ne ki]; exact hR.2 k h2 h13
  have e10 : q1Z i z 10 = z 10 := by unfold q1Z; rw [if_neg (by omega)]
  obtain ⟨R', e1, e2⟩ := tx_advS (N := N) hN hL hC1 (by rw [e10]; exact (zI_10 hz))
  rw [wr_wr] at e1 e2
  rw [si_wr]
  exact ⟨R', e1, e2⟩
theorem gm_once {b : Int32} {i : Nat} (hN : 1000 ≤ N) (hl : mdL S m) (ham : a ≤ m) (hw : MS S w a m n B ln W R0 z) (hz : zI n z) (hi : i = 5 ∨ i = 6 ∨ i = 7)
    (hb1 : z i = 1 → ((J (z 5 + 2 * z 6 + 4 * z 7) >>> (b &&& 31)) &&& (J 1)) = J 1) (hb0 : z i = 0 → ¬ ((J (z 5 + 2 * z 6 + 4 * z 7) >>> (b &&& 31)) &&& (J 1)) = J 1) (hb2 : z i = 0 → (J (z 5 + 2 * z 6 + 4 * z 7) ||| ((J 1) <<< (b &&& 31))) = J (q1Z i z 5 + 2 * q1Z i z 6 + 4 * q1Z i z 7)) :
    (z i = 1 → ∃ Q', F_gm_isOnce N m b S w = some (J 0, wr w m Q') ∧ MS S (wr w m Q') a m n B ln W R0 (flZ 3 z)) ∧
    (z i = 0 → ∃ Q', F_gm_isOnce N m b S w = some (J 1, wr w m Q') ∧ MS S (wr w m Q') a m n B ln W R0 (adZ B n (q1Z i z))) := by
  obtain ⟨q0, q17, q20, q21, q22, q23, q25, q24, q27⟩ := id hw.2.2
  have r27 : gi w m 27 = J (z 5 + 2 * z 6 + 4 * z 7) := by rw [gi_rw]; exact q27
  unfold F_gm_isOnce
  rw [grd_true _ hl.1, r27]
  constructor
  · intro o
    obtain ⟨Q', f1, f2⟩ := gm_failS (x := 3) hl ham hw hz.1
    rw [if_pos (hb1 o), f1]
    simp only [Option.bind_some]
    rw [grd_true _ (by decide)]
    exact ⟨Q', rfl, f2⟩
  · intro o
    have e2 : ∀ k, k ≠ 5 → k ≠ 6 → k ≠ 7 → q1Z i z k = z k := fun k h5 h6 h7 => by unfold q1Z; rw [if_neg (by omega)]
    have hC1 : MS S (wr w m (up (rw w m) 27 (J (q1Z i z 5 + 2 * q1Z i z 6 + 4 * q1Z i z 7)))) a m n B ln W R0 (q1Z i z) := by
      refine MS_wr ham hw ⟨fun k hk => ?_, ?_, ?_, ?_, ?_, ?_, ?_, ?_, ?_⟩
      · rw [up_ne (by omega)]; exact q0 k hk
      · rw [up_ne (by decide)]; exact q17
      · rw [up_ne (by decide), e2 2 (by decide) (by decide) (by decide)]; exact q20
      · rw [up_ne (by decide), e2 3 (by decide) (by decide) (by decide)]; exact q21
      · rw [up_ne (by decide), e2 10 (by decide) (by decide) (by decide)]; exact q22
      · rw [up_ne (by decide), e2 9 (by decide) (by decide) (by decide)]; exact q23
      · rw [up_ne (by decide), e2 8 (by decide) (by decide) (by decide), e2 10 (by decide) (by decide) (by decide), e2 9 (by decide) (by decide) (by decide)]; exact q25
      · rw [up_ne (by decide), e2 8 (by decide) (by decide) (by decide), e2 10 (by decide) (by decide) (by decide), e2 9 (by decide) (by decide) (by decide), e2 11 (by decide) (by decide) (by decide)]; exact q24
      · rw [up_same]
    obtain ⟨Q', f1, f2, -⟩ := gm_advS (N := N) hN hl ham hC1 (by rw [e2 10 (by decide) (by decide) (by decide)]; exact (zI_10 hz))
    rw [wr_wr] at f1 f2
    rw [if_neg (hb0 o), hb2 o]
    simp only [lt_def, si_wr]
    rw [f1]
    exact ⟨Q', rfl, f2⟩
theorem bit_0 {x y u : Int} (hx : x = 0 ∨ x = 1) (hy : y = 0 ∨ y = 1) (hu : u = 0 ∨ u = 1) : (x = 1 → ((J (x + 2 * y + 4 * u) >>> ((J 0) &&& 31)) &&& (J 1)) = J 1) ∧ (x = 0 → ¬ ((J (x + 2 * y + 4 * u) >>> ((J 0) &&& 31)) &&& (J 1)) = J 1) ∧ (x = 0 → (J (x + 2 * y + 4 * u) ||| ((J 1) <<< ((J 0) &&& 31))) = J (1 + 2 * y + 4 * u)) := by
  rcases hx with h | h <;> rcases hy with h' | h' <;> rcases hu with h'' | h'' <;> subst h <;> subst h' <;> subst h'' <;> decide
theorem bit_1 {x y u : Int} (hx : x = 0 ∨ x = 1) (hy : y = 0 ∨ y = 1) (hu : u = 0 ∨ u = 1) : (y = 1 → ((J (x + 2 * y + 4 * u) >>> ((J 1) &&& 31)) &&& (J 1)) = J 1) ∧ (y = 0 → ¬ ((J (x + 2 * y + 4 * u) >>> ((J 1) &&& 31)) &&& (J 1)) = J 1) ∧ (y = 0 → (J (x + 2 * y + 4 * u) ||| ((J 1) <<< ((J 1) &&& 31))) = J (x + 2 * 1 + 4 * u)) := by
  rcases hx with h | h <;> rcases hy with h' | h' <;> rcases hu with h'' | h'' <;> subst h <;> subst h' <;> subst h'' <;> decide
theorem bit_2 {x y u : Int} (hx : x = 0 ∨ x = 1) (hy : y = 0 ∨ y = 1) (hu : u = 0 ∨ u = 1) : (u = 1 → ((J (x + 2 * y + 4 * u) >>> ((J 2) &&& 31)) &&& (J 1)) = J 1) ∧ (u = 0 → ¬ ((J (x + 2 * y + 4 * u) >>> ((J 2) &&& 31)) &&& (J 1)) = J 1) ∧ (u = 0 → (J (x + 2 * y + 4 * u) ||| ((J 1) <<< ((J 2) &&& 31))) = J (x + 2 * y + 4 * 1)) := by
  rcases hx with h | h <;> rcases hy with h' | h' <;> rcases hu with h'' | h'' <;> subst h <;> subst h' <;> subst h'' <;> decide
theorem tPs_wr {f : Nat → Int32} {x : Nat} (hT : tPs S v a) (hx : a ≤ x ∧ x < a + 84) : tPs S (wr v x f) a := by
  obtain ⟨t1, t2, t3⟩ := hT
  exact ⟨t1, t2, fun i hi => by rw [rw_wr_ne (by omega)]; exact t3 i hi⟩
/-- the prescaler of a draft -/
theorem dV_ps {P : Int} (hs : dV s) (hP : 1 ≤ P ∧ P ≤ 16) : dV (psS P s) := by
  obtain ⟨h1, h2, h3, h4, h5⟩ := hs
  exact ⟨psS_V h1 hP, h2, h3, ⟨rfl, rfl, rfl⟩, h5⟩
theorem rwM_ps {P : Int} (hs : dV s) (hr : rwM R s) : rwM (up R 4 (J P)) (psS P s) := by
  obtain ⟨h, c, g, t, p, M⟩ := s
  obtain ⟨-, -, -, ⟨g6, g7, g5⟩, -⟩ := hs
  have e15 : R 15 = J 0 := by
    have := hr.1 15 (by decide)
    rw [this]
    show J (g 5) = J 0
    rw [show g 5 = 0 from g5]
  have e17 : R 17 = J 0 := by
    have := hr.1 17 (by decide)
    rw [this]
    show J (g 2 - g 6) = J 0
    rw [show g 6 = g 2 from g6, Int.sub_self]
  have e18 : R 18 = J 0 := by
    have := hr.1 18 (by decide)
    rw [this]
    show J (g 3 - g 7) = J 0
    rw [show g 7 = g 3 from g7, Int.sub_self]
  have e := rowM_ps (P := P) hr
  rw [up_id (f := up R 4 (J P)) (k := 15) (by rw [up_ne (by decide)]; exact e15), up_id (f := up R 4 (J P)) (k := 17) (by rw [up_ne (by decide)]; exact e17), up_id (f := up R 4 (J P)) (k := 18) (by rw [up_ne (by decide)]; exact e18)] at e
  exact e
theorem jd_pres (hN : 1000 ≤ N) (hL : gcL S a) (ham : a ≤ m) (hC : CS S v a n B ln W z) (hz : zI n z) (h8 : z 8 ≠ 0) (hD : stD S v (a + 3) s) (hs : dV s) (hT : tPs S v a) :
    JD S a m n B ln W v z s (F_tx_readPrescale N (a + 1) S v) (fun T w => F_gm_readPrescale N m T w) (fun z' => z 9 < z' 9) := by
  have n1 : ¬ J 1 = J 0 := by decide
  have g4 := hL.2.1.2.2.2
  have l3 := gcL_st hL (Or.inl rfl)
  obtain ⟨zz2, zz9, zz8, zz11, z5, zz0⟩ := id hz
  obtain ⟨bt1, bt0, bt2⟩ := bit_0 z5.1 z5.2.1 z5.2.2
  have on := fun {T : shp} {R0 : Nat → Int32} {w : vl} (hl : mdL T m) (hw : MS T w a m n B ln W R0 z) => gm_once (N := N) (b := J 0) (i := 5) hN hl ham hw hz (Or.inl rfl) bt1 bt0 bt2
  have r5 : gi v (a + 1) 5 = J (z 5) := by rw [gi_rw]; exact hC.2.2.2 5 (by decide) (by decide)
  rcases z5.1 with o | o
  · obtain ⟨R1, a1, C1⟩ := tx_once (N := N) (i := 5) hN hL hC hz (Or.inl rfl)
    obtain ⟨I1, p1⟩ := q1_I (i := 5) hC.1.2.1 hz h8 (Or.inl rfl)
    obtain ⟨z1, ez⟩ : ∃ z1, z1 = adZ B n (q1Z 5 z) := ⟨_, rfl⟩
    rw [← ez] at C1 I1 p1
    have z18 := I1.2.2.1
    have r8 : gi (wr v (a + 1) R1) (a + 1) 8 = J (z1 8) := by rw [gi_rw]; exact C1.2.2.2 8 (by decide) (by decide)
    have r11 : gi (wr v (a + 1) R1) (a + 1) 11 = J (z1 11) := by rw [gi_rw]; exact C1.2.2.2 11 (by decide) (by decide)
    have cl : F_tx_readPrescale N (a + 1) S v = if J (z1 8) = J 2 then (F_gc_isPrescale N (J (z1 11)) S (wr v (a + 1) R1)).bind fun x4 => (if x4 = (J 0) then (F_tx_fail (a + 1) (J 2) S (wr v (a + 1) R1)).bind fun (x5, w6) => grd (narrow .boolean (.int x5) = .int x5) <| some ((x5, w6)) else K_tx_readPrescale_46 N S (wr v (a + 1) R1) (a + 1)) else K_tx_readPrescale_46 N S (wr v (a + 1) R1) (a + 1) := by
      unfold F_tx_readPrescale
      rw [grd_true _ hL.2.1.1, r5, if_pos (by rw [o])]
      simp only [lt_def]
      rw [a1]
      simp only [Option.bind_some]
      rw [r8, r11]
    -- the model behind the word
    have md : ∀ (T : shp) (R0 : Nat → Int32) (w : vl), mdL T m → MS T w a m n B ln W R0 z → ∃ Q1, MS T (wr w m Q1) a m n B ln W R0 z1 ∧ F_gm_readPrescale N m T w = (F_gm_sees m (J 1) (J 16) T (wr w m Q1)).bind fun (x4, w5) => (if x4 = (J 0) then some (((J 0), w5)) else (F_gm_mayBeP (gi w5 m 26) T w5).bind fun x6 => (if x6 = (J 0) then (F_gm_failsAt m (J 2) T w5).bind fun (x7, w8) => grd (narrow .boolean (.int x7) = .int x7) <| some ((x7, w8)) else lt (si w5 (m + 1) 4 (gi w5 m 26)) fun w13 => (F_gm_advanceToken N m T w13).bind fun w14 => some (((J 1), w14)))) := by
      intro T R0 w hl hw
      obtain ⟨Q1, k1, k2⟩ := (on hl hw).2 o
      rw [← ez] at k2
      refine ⟨Q1, k2, ?_⟩
      unfold F_gm_readPrescale
      rw [grd_true _ hl.1, k1]
      simp only [Option.bind_some]
      rw [if_neg n1, hl.2.1]
      simp only [Option.bind_some]
      simp only [grd_true _ hl.2.2.1]
    -- both fail
    have bad : ∀ (code : Int) (R2 : Nat → Int32), F_tx_readPrescale N (a + 1) S v = some (J 0, wr v (a + 1) R2) → CS S (wr v (a + 1) R2) a n B ln W (flZ code z1) → (∀ (T : shp) (R0 : Nat → Int32) (w : vl), mdL T m → MS T w a m n B ln W R0 z1 → ∃ Q', ((F_gm_sees m (J 1) (J 16) T w).bind fun (x4, w5) => (if x4 = (J 0) then some (((J 0), w5)) else (F_gm_mayBeP (gi w5 m 26) T w5).bind fun x6 => (if x6 = (J 0) then (F_gm_failsAt m (J 2) T w5).bind fun (x7, w8) => grd (narrow .boolean (.int x7) = .int x7) <| some ((x7, w8)) else lt (si w5 (m + 1) 4 (gi w5 m 26)) fun w13 => (F_gm_advanceToken N m T w13).bind fun w14 => some (((J 1), w14))))) = some (J 0, wr w m Q') ∧ MS T (wr w m Q') a m n B ln W R0 (flZ code z1)) → JD S a m n B ln W v z s (F_tx_readPrescale N (a + 1) S v) (fun T w => F_gm_readPrescale N m T w) (fun z' => z 9 < z' 9) := by
      intro code R2 e1 e2 e3
      refine ⟨0, flZ code z1, s, _, e1, e2, fri_wr (by omega), Or.inl rfl, fun y => by omega, fun T R0 w hl hw hr => ?_⟩
      obtain ⟨Q1, m1, m2⟩ := md T R0 w hl hw
      try dsimp only at m1
      obtain ⟨Q', f1, f2⟩ := e3 T R0 _ hl m1
      try dsimp only at f1
      rw [wr_wr] at f1 f2
      exact ⟨_, by show F_gm_readPrescale N m T w = _; rw [m2]; exact f1, f2, fri_wr (by omega), fun y => by omega⟩
    by_cases k2 : z1 8 = 2
    · have b11 := I1.2.2.2.1 k2
      obtain ⟨pr1, pr0⟩ := gc_isPrescale (n := z1 11) (N := N) (by omega) (tPs_wr (x := a + 1) (f := R1) hT (by omega)) (by omega)
      rw [if_pos (by rw [k2])] at cl
      by_cases hp : isP (z1 11)
      · have hP : 1 ≤ z1 11 ∧ z1 11 ≤ 16 := by unfold isP at hp; omega
        have ok : okN 1 16 z1 := ⟨k2, hP⟩
        obtain ⟨R2, b1, C2⟩ := (tx_take (N := N) (lo := 1) (hi := 16) hN hL C1 I1 ⟨by decide, by decide⟩).1 ok
        rw [wr_wr] at b1 C2
        obtain ⟨I2, K2, e12⟩ := adp_I (x := z1 11) hC.1.2.1 I1 (by omega)
        have j12 : gi (wr v (a + 1) R2) (a + 1) 12 = J (z1 11) := by rw [gi_rw, C2.2.2.2 12 (by decide) (by decide), e12]
        obtain ⟨f, f1, f2⟩ := st_setUp (P := z1 11) (stD_lo (f := R2) (x := a + 1) hD (by omega))
        refine ⟨1, adZ B n (p12 (z1 11) z1), psS (z1 11) s, _, ?_, CS_d C2 (by omega), fri_tr (fri_wr (by omega)) (fri_wr (by omega)), Or.inr rfl, fun _ => ⟨I2, Int.lt_trans p1 K2.2, f2, dV_ps hs hP⟩, fun T R0 w hl hw hr => ?_⟩
        · rw [cl, pr1 hp]
          simp only [Option.bind_some]
          rw [if_neg n1]
          unfold K_tx_readPrescale_46
          rw [grd_true _ hL.2.1.1, b1]
          simp only [Option.bind_some]
          rw [if_neg n1, g4]
          simp only [Option.bind_some]
          rw [grd_true _ l3.1, l3.2.2.2.1]
          simp only [Option.bind_some]
          rw [grd_true _ l3.2.2.2.2.1.1, j12, f1]
          rfl
        · obtain ⟨Q1, m1, m2⟩ := md T R0 w hl hw
          try dsimp only at m1
          have sm := (gm_seesS (lo := 1) (hi := 16) hl ham m1 I1 ⟨by decide, by decide⟩).1 ok
          have h26 : MS T (wr (wr w m Q1) m (up (rw (wr w m Q1) m) 26 (J (z1 11)))) a m n B ln W R0 (p12 (z1 11) z1) := MS_26 ham m1
          rw [wr_wr, rw_wr] at h26 sm
          have j26 : gi (wr w m (up Q1 26 (J (z1 11)))) m 26 = J (z1 11) := by rw [gi_rw, rw_wr, up_same]
          have hd := MS_d (R' := up (rw w (m + 1)) 4 (J (z1 11))) ham h26
          obtain ⟨Q3, d1, d2, -⟩ := gm_advS (N := N) hN hl ham hd (zI_10 I1)
          refine ⟨_, ?_, d2, fri_tr (fri_tr (fri_wr (by omega)) (fri_wr (by omega))) (fri_wr (by omega)), fun _ => ?_⟩
          · show F_gm_readPrescale N m T w = _
            rw [m2, sm]
            simp only [Option.bind_some]
            rw [if_neg n1, j26, (gm_mayBeP (by omega)).1 hp]
            simp only [Option.bind_some]
            rw [if_neg n1]
            simp only [lt_def, si_wr]
            rw [rw_wr_ne (show m + 1 ≠ m by omega), d1]
            rfl
          · rw [rw_wr_ne (by omega), rw_wr]
            exact rwM_ps hs hr
      · obtain ⟨R2, b1, C2⟩ := tx_failS (x := 2) hL C1
        rw [wr_wr] at b1 C2
        refine bad 2 R2 ?_ C2 (fun T R0 w hl hw => ?_)
        · rw [cl, pr0 hp]
          simp only [Option.bind_some, if_true]
          rw [b1]
          simp only [Option.bind_some]
          rw [grd_true _ (by decide)]
        · obtain ⟨s1, s2⟩ := gm_seesS (lo := 1) (hi := 16) hl ham hw I1 ⟨by decide, by decide⟩
          by_cases ok : okN 1 16 z1
          · have h26 : MS T (wr w m (up (rw w m) 26 (J (z1 11)))) a m n B ln W R0 z1 := MS_26 ham hw
            have j26 : gi (wr w m (up (rw w m) 26 (J (z1 11)))) m 26 = J (z1 11) := by rw [gi_rw, rw_wr, up_same]
            obtain ⟨Q', f1, f2⟩ := gm_failS (x := 2) hl ham h26 I1.1
            rw [wr_wr] at f1 f2
            rw [s1 ok]
            simp only [Option.bind_some]
            rw [if_neg n1, j26, (gm_mayBeP (by omega)).2 hp]
            simp only [Option.bind_some, if_true]
            rw [f1]
            simp only [Option.bind_some]
            rw [grd_true _ (by decide)]
            exact ⟨Q', rfl, f2⟩
          · obtain ⟨Q', f1, f2⟩ := s2 ok
            rw [show cdN z1 = 2 from if_pos k2] at f2
            rw [f1]
            exact ⟨Q', rfl, f2⟩
    · have nk : ¬ okN 1 16 z1 := fun y => k2 y.1
      obtain ⟨R2, b1, C2⟩ := (tx_take (N := N) (lo := 1) (hi := 16) hN hL C1 I1 ⟨by decide, by decide⟩).2 nk
      rw [wr_wr] at b1 C2
      rw [if_neg (fun y => k2 ((J_eq (by omega) (by decide)).mp y))] at cl
      refine bad (cdN z1) R2 ?_ C2 (fun T R0 w hl hw => ?_)
      · rw [cl]
        unfold K_tx_readPrescale_46
        rw [grd_true _ hL.2.1.1, b1]
        rfl
      · obtain ⟨Q', f1, f2⟩ := (gm_seesS (lo := 1) (hi := 16) hl ham hw I1 ⟨by decide, by decide⟩).2 nk
        rw [f1]
        exact ⟨Q', rfl, f2⟩
  · obtain ⟨R1, a1, C1⟩ := tx_failS (x := 3) hL hC
    refine ⟨0, flZ 3 z, s, _, ?_, C1, fri_wr (by omega), Or.inl rfl, fun y => by omega, fun T R0 w hl hw hr => ?_⟩
    · unfold F_tx_readPrescale
      rw [grd_true _ hL.2.1.1, r5, if_neg (by rw [o]; decide), a1]
      simp only [Option.bind_some]
      rw [grd_true _ (by decide)]
    · obtain ⟨Q1, k1, k2⟩ := (on hl hw).1 o
      refine ⟨_, ?_, k2, fri_wr (by omega), fun y => by omega⟩
      show F_gm_readPrescale N m T w = _
      unfold F_gm_readPrescale
      rw [grd_true _ hl.1, k1]
      rfl
end STMTS
