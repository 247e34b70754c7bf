/-! The law: the calls that stand apart. -/
section LAWOWN
variable {S S' : shp} {v w v' u v'' : vl} {a b m N n q r len r' len' l k oa p0 : Nat} {ln : Nat → Nat} {W : Nat → Nat → Int} {s : full} {now : sta} {sv : Option sta} {ps : List sta} {re ca ch : Int} {i23 : shp → vl → Nat → Nat → Nat → Nat → Int32 → Option (Int32 × shp × vl)}
theorem wdS_exN (h1 : wdS S v a ln W) (hw : wfS S) (h : exN a k l S v S' v') : wdS S' v' a ln W := wdS_exL h1 hw (exN_L h)
/-- behind loadCounter, both sides -/
theorem OT_load (hO : OT S v a m oa p0 n ln W) (hL : gcL S a) (hm : mdL S m) (hw : wfS S) (h : exN a k l S v S' v') (hf : fri m 8 v' v'') (hI : IR v'' a m) (hM : rw v'' m 29 = rw v' m 29 ∧ rw v'' (m + 7) = rw v' (m + 7)) : OT S' v'' a m oa p0 n ln W := by
  obtain ⟨⟨t1, t2, t3, t4⟩, -, hB, ⟨h1, h2, h3⟩, h4, h5⟩ := hO
  have hx := exN_L h
  have x3 := h.2.2.1
  have T1 := tPs_exL t1 hw hx
  have T3 := dtT_exN t3 hw h
  have t4' : kad S' 0 < a := by rw [h.2.2.2.1]; exact t4
  obtain ⟨X, r, len, ⟨k0, ⟨c1, c3⟩, g0, kr, hb, hbt, ht⟩, ho, ⟨m1, m2, m3⟩, hA⟩ := BO_exN hB hL hm hw h1 h
  have hr := ho.2
  have rl : ∀ x, x < m → rw v'' x = rw v' x := fun x hx => hf.2 x (by omega)
  obtain ⟨y1, y2, y3⟩ := T1
  obtain ⟨u1, u2, u3, u5⟩ := T3
  have er : rw v'' r = rw v' r := hf.2 r (by omega)
  refine ⟨⟨⟨y1, y2, fun i hi => by rw [rl _ (by omega)]; exact y3 i hi⟩, wdS_eq (wdS_exL t2 hw hx) (fun b hb => rl b (by omega)), ⟨u1, u2, u3, fun q hq => by rw [rl _ (by omega), rl _ (by omega)]; exact u5 q hq⟩, t4'⟩, hI, ⟨X, r, len, ⟨k0, ⟨by rw [rl _ (by omega)]; exact c1, by rw [rl _ (by omega)]; exact c3⟩, g0, kr, hb, by rw [er]; exact hbt, fun i hi => by rw [er]; exact ht i hi⟩, ho, ⟨by rw [hM.1]; exact m1, m2, fun i hi => by rw [hM.2]; exact m3 i hi⟩, hA⟩, ⟨h1, by rw [x3 _ (kin_lt hw h2)]; exact h2, h3⟩, by rw [x3 _ (kin_lt hw h4)]; exact h4, h5⟩
theorem st_loadCounter (hN : 7000000 ≤ N) (hI : LI S v a m oa p0 n ln W q) : ST N i23 S p0 a m oa k n ln W q (K_lw_law_402 N i23 S v p0 a m oa (J (k : Int))) := by
  obtain ⟨s, hw, hR0, hd0, hO⟩ := hI
  have hL := hR0.1
  have hl := hd0.1
  have ham := hO.2.2.2.1.1
  obtain ⟨x, S', v', now', sv', ps', e1, e2, e3, e4, v'', f1, f2, f3, f4, f5⟩ := load_both hN ham hw hR0 hd0 hO.1.1 hO.1.2.1 hO.2.1
  have hl' := f3.1
  refine ⟨S', v'', ?_, ⟨(now', sv', ps', s.2.2.2), e2, cR_q (cR_mod e4 hl' ham f2) (by omega), f3, OT_load hO hL hl hw e3 f2 f4 f5⟩, ?_⟩
  · unfold K_lw_law_402
    rw [grd_true _ hL.1.1, e1]
    simp only [Option.bind_some]
    rw [grd_true _ hl'.1, f1]
    simp only [Option.bind_some, if_true]
  · obtain ⟨-, -, -, -, -, h6, h7⟩ := e3
    unfold gw
    omega
/-- the given text moved, both sides -/
theorem LI_text (hw : wfS S) (hR : cX S v a s q) (hd : dX S v m s) (hO : OT S v a m oa p0 n ln W) (hf : fri (a + 1) 2 v v') (h06 : f06 m v' v'') (hk : ∀ k, k ≠ 10 → k ≠ 17 → rw v'' m k = rw v' m k) (hI : IR v'' a m) : LI S v'' a m oa p0 n ln W (q + 1) := by
  have hl := hd.1
  have ham := hO.2.2.2.1.1
  have F8 : fri (a + 1) 8 v v' := fri_mono hf (by omega) (by omega)
  have G8 : fri m 8 v' v'' := ⟨h06.1, fun y hy => h06.2 y (by omega) (by omega)⟩
  have rv : ∀ y, y ≠ m → y ≠ m + 6 → (y < a + 1 ∨ a + 3 ≤ y) → rw v'' y = rw v y := fun y y0 y6 yy => (h06.2 y y0 y6).trans (hf.2 y (by omega))
  have rm : ∀ k, k ≠ 10 → k ≠ 17 → rw v'' m k = rw v m k := fun k k1 k2 => (hk k k1 k2).trans (by rw [hf.2 m (by omega)])
  refine ⟨s, hw, cR_q (cR_mod (cR_in hR F8) hl ham G8) (by omega), dR_rows hd hl (rv _ (by omega) (by omega) (by omega)) (rv _ (by omega) (by omega) (by omega)) (rv _ (by omega) (by omega) (by omega)) (fun k _ _ => rm k (by omega) (by omega)), ?_⟩
  obtain ⟨⟨t1, t2, t3, t4⟩, -, ⟨X, r, len, ⟨k0, ⟨c1, c3⟩, g0, kr, hb, hbt, ht⟩, ho, ⟨m1, m2, m3⟩, hA⟩, ⟨h1, h2, h3⟩, h4, h5⟩ := hO
  have hr := ho.2
  obtain ⟨y1, y2, y3⟩ := t1
  obtain ⟨u1, u2, u3, u5⟩ := t3
  have rl : ∀ x, x < a → rw v'' x = rw v x := fun x hx => rv x (by omega) (by omega) (by omega)
  have er : rw v'' r = rw v r := rv r (by omega) (by omega) (by omega)
  have e9 : rw v'' (a + 9) = rw v (a + 9) := rv _ (by omega) (by omega) (by omega)
  exact ⟨⟨⟨y1, y2, fun i hi => by rw [rl _ (by omega)]; exact y3 i hi⟩, wdS_eq t2 (fun b hb => rl b hb), ⟨u1, u2, u3, fun q hq => by rw [rl _ (by omega), rl _ (by omega)]; exact u5 q hq⟩, t4⟩, hI, ⟨X, r, len, ⟨k0, ⟨by rw [e9]; exact c1, by rw [e9]; exact c3⟩, g0, kr, hb, by rw [er]; exact hbt, fun i hi => by rw [er]; exact ht i hi⟩, ho, ⟨by rw [rm 29 (by decide) (by decide)]; exact m1, m2, fun i hi => by rw [rv (m + 7) (by omega) (by omega) (by omega)]; exact m3 i hi⟩, hA⟩, ⟨h1, h2, h3⟩, h4, h5⟩
theorem LI_up (hI : LI S v a m oa p0 n ln W q) : LI S v a m oa p0 n ln W (q + 1) := by
  obtain ⟨s, h1, h2, h3, h4⟩ := hI
  exact ⟨s, h1, cR_q h2 (by omega), h3, h4⟩
theorem st_appendInput (hN : 7000000 ≤ N) (hk : k + 5 < n ∧ n ≤ 100000) (hI : LI S v a m oa p0 n ln W q) : ST N i23 S p0 a m oa k n ln W q (K_lw_law_304 N i23 S v p0 a m oa (J (k : Int))) := by
  obtain ⟨s, hw, hR0, hd0, hO⟩ := hI
  have hL := hR0.1
  have hl := hd0.1
  have ham := hO.2.2.2.1.1
  have hp0 : kin S p0 = some (11, n) := hO.2.2.2.2.1
  have hpa : p0 < a := hO.2.2.2.2.2
  have v1 : vp_in (J (k : Int) + J 1) (alen S p0) := sc_in (j := 1) hp0 hk (by decide)
  have v2 : vp_in (J (k : Int) + J 2) (alen S p0) := sc_in (j := 2) hp0 hk (by decide)
  have v3 : vp_in (J (k : Int) + J 3) (alen S p0) := sc_in (j := 3) hp0 hk (by decide)
  have v4 : vp_in (J (k : Int) + J 4) (alen S p0) := sc_in (j := 4) hp0 hk (by decide)
  have v5 : vp_in (J (k : Int) + J 5) (alen S p0) := sc_in (j := 5) hp0 hk (by decide)
  obtain ⟨x, v', e1, e2, v'', f1, f2, f3, f4, f5⟩ := append_both (S := S) (b1 := gi v p0 (Int32.toNatClampNeg (J (k : Int) + J 1))) (b2 := gi v p0 (Int32.toNatClampNeg (J (k : Int) + J 2))) (b3 := gi v p0 (Int32.toNatClampNeg (J (k : Int) + J 3))) (b4 := gi v p0 (Int32.toNatClampNeg (J (k : Int) + J 4))) (b5 := gi v p0 (Int32.toNatClampNeg (J (k : Int) + J 5))) (N := N) (by omega) hL hl ham hO.2.1
  have yj : ∀ j, gi v' p0 j = gi v p0 j := fun j => by rw [gi_rw, gi_rw, e2.2 p0 (by omega)]
  refine ⟨S, v'', ?_, LI_text hw hR0 hd0 hO e2 f2 f3 f5, gw_0⟩
  unfold K_lw_law_304
  rw [grd_true _ (sc_P hp0), grd_true _ v1, grd_true _ v2, grd_true _ v3, grd_true _ v4, grd_true _ v5, grd_true _ hL.1.1, e1]
  simp only [Option.bind_some]
  rw [grd_true _ hl.1]
  simp only [yj]
  rw [f1]
  simp only [Option.bind_some, if_true]
theorem st_truncateInput (hk : k + 5 < n ∧ n ≤ 100000) (hI : LI S v a m oa p0 n ln W q) : ST N i23 S p0 a m oa k n ln W q (K_lw_law_377 N i23 S v p0 a m oa (J (k : Int))) := by
  obtain ⟨s, hw, hR0, hd0, hO⟩ := hI
  have hL := hR0.1
  have hl := hd0.1
  have ham := hO.2.2.2.1.1
  have hp0 : kin S p0 = some (11, n) := hO.2.2.2.2.1
  have hpa : p0 < a := hO.2.2.2.2.2
  have v1 : vp_in (J (k : Int) + J 1) (alen S p0) := sc_in (j := 1) hp0 hk (by decide)
  obtain ⟨x1, y1, b1⟩ := sc_ar (gi v p0 (Int32.toNatClampNeg (J (k : Int) + J 1)))
  obtain ⟨x, v', e1, e2, v'', f1, f2, f3, f4, f5⟩ := trunc_both (S := S) hL hl ham hO.2.1 b1
  have yj : gi v' p0 (Int32.toNatClampNeg (J (k : Int) + J 1)) = J x1 := by rw [← y1, gi_rw, gi_rw, e2.2 p0 (by omega)]
  refine ⟨S, v'', ?_, LI_text hw hR0 hd0 hO e2 f2 f3 f5, gw_0⟩
  unfold K_lw_law_377
  rw [grd_true _ (sc_P hp0), grd_true _ v1, grd_true _ hL.1.1, y1, e1]
  simp only [Option.bind_some]
  rw [grd_true _ hl.1, yj, f1]
  simp only [Option.bind_some, if_true]
theorem st_errorCode (hI : LI S v a m oa p0 n ln W q) : ST N i23 S p0 a m oa k n ln W q (K_lw_law_415 N i23 S v p0 a m oa (J (k : Int))) := by
  obtain ⟨s, hw, hR0, hd0, hO⟩ := hI
  have hL := hR0.1
  have hl := hd0.1
  obtain ⟨x, e1, f1⟩ := (err_both (S := S) hL hl hO.2.1).1
  refine ⟨S, th v m 0, ?_, LI_up (LI_q (x := 0) hw hR0 hd0 hO mqt_th), gw_0⟩
  unfold K_lw_law_415
  rw [grd_true _ hL.1.1, e1]
  simp only [Option.bind_some]
  rw [grd_true _ hl.1, f1]
  simp only [Option.bind_some, if_true]
theorem st_errorOffset (hI : LI S v a m oa p0 n ln W q) : ST N i23 S p0 a m oa k n ln W q (K_lw_law_428 N i23 S v p0 a m oa (J (k : Int))) := by
  obtain ⟨s, hw, hR0, hd0, hO⟩ := hI
  have hL := hR0.1
  have hl := hd0.1
  obtain ⟨x, e1, f1⟩ := (err_both (S := S) hL hl hO.2.1).2
  refine ⟨S, th v m 0, ?_, LI_up (LI_q (x := 0) hw hR0 hd0 hO mqt_th), gw_0⟩
  unfold K_lw_law_428
  rw [grd_true _ hL.1.1, e1]
  simp only [Option.bind_some]
  rw [grd_true _ hl.1, f1]
  simp only [Option.bind_some, if_true]
theorem st_outputByte (hk : k + 5 < n ∧ n ≤ 100000) (hI : LI S v a m oa p0 n ln W q) : ST N i23 S p0 a m oa k n ln W q (K_lw_law_2641 N i23 S v p0 a m oa (J (k : Int))) := by
  obtain ⟨s, hw, hR0, hd0, hO⟩ := hI
  have hL := hR0.1
  have hl := hd0.1
  have hp0 : kin S p0 = some (11, n) := hO.2.2.2.2.1
  have v1 : vp_in (J (k : Int) + J 1) (alen S p0) := sc_in (j := 1) hp0 hk (by decide)
  obtain ⟨x1, y1, b1⟩ := sc_ar (gi v p0 (Int32.toNatClampNeg (J (k : Int) + J 1)))
  obtain ⟨x, e1, f1⟩ := out_both (S := S) hL hl hO.2.2.1 b1
  refine ⟨S, th v m 0, ?_, LI_up (LI_q (x := 0) hw hR0 hd0 hO mqt_th), gw_0⟩
  unfold K_lw_law_2641
  rw [grd_true _ (sc_P hp0), grd_true _ v1, grd_true _ hL.1.1, y1, e1]
  simp only [Option.bind_some]
  rw [grd_true _ hl.1, f1]
  simp only [Option.bind_some, if_true]
theorem st_meanValue (hF : flO) (hN : 7000000 ≤ N) (hI : LI S v a m oa p0 n ln W q) : ST N i23 S p0 a m oa k n ln W q (K_lw_law_1880 N i23 S v p0 a m oa (J (k : Int))) := by
  obtain ⟨s, hw, hR0, hd0, hO⟩ := hI
  obtain ⟨⟨h, c, g, t, p, M⟩, sv, ps, re, ca, ch⟩ := s
  have hR : cR S v a (h, c, g, t, p, M) sv ps re ca ch q := hR0
  have hd : dR S v m (h, c, g, t, p, M) sv ps re ca ch := hd0
  have hs : stV h c g t p M := cR_V hR
  refine ⟨S, th v m 0, ?_, LI_up (LI_q (x := 0) hw hR0 hd0 hO mqt_th), gw_0⟩
  unfold K_lw_law_1880
  rw [grd_true _ hR.1.1.1, gc_meanValue (N := N) hF (by omega) hR]
  simp only [Option.bind_some]
  rw [grd_true _ hd.1.1, gm_meanValue (N := N) hF (by omega) hd hs]
  simp only [Option.bind_some]
  generalize mvE (h 5).toNat (smL (m4 M) (h 5).toNat 0 (JL 0)) = E
  by_cases z : (Op.cmpValue (FP.dcmp E E) .l) = (J 0)
  · rw [if_pos z]
  · rw [if_neg z, if_neg z, if_neg z]
theorem st_tickShare (hF : flO) (hI : LI S v a m oa p0 n ln W q) : ST N i23 S p0 a m oa k n ln W q (K_lw_law_1934 N i23 S v p0 a m oa (J (k : Int))) := by
  obtain ⟨s, hw, hR0, hd0, hO⟩ := hI
  obtain ⟨⟨h, c, g, t, p, M⟩, sv, ps, re, ca, ch⟩ := s
  have hR : cR S v a (h, c, g, t, p, M) sv ps re ca ch q := hR0
  have hd : dR S v m (h, c, g, t, p, M) sv ps re ca ch := hd0
  have hs : stV h c g t p M := cR_V hR
  have h64 := tsE_64 hF hs
  refine ⟨S, th v m 0, ?_, LI_up (LI_q (x := 0) hw hR0 hd0 hO mqt_th), gw_0⟩
  unfold K_lw_law_1934
  rw [grd_true _ hR.1.1.1, gc_tickShare hF hR]
  simp only [Option.bind_some]
  rw [grd_true _ h64, grd_true _ hd.1.1, gm_tickShare hF hd hs]
  simp only [Option.bind_some]
  rw [grd_true _ h64]
  generalize FP.f2d (tsE c) = E
  by_cases z : (Op.cmpValue (FP.dcmp E E) .l) = (J 0)
  · rw [if_pos z]
  · rw [if_neg z, if_neg z, if_neg z]
theorem st_idealB {x : Int} (hN : 7000000 ≤ N) (hx : x = 0 ∨ x = 1) (hk : k + 5 < n ∧ n ≤ 100000) (hI : LI S v a m oa p0 n ln W q) (hz : gi v p0 (Int32.toNatClampNeg (J (k : Int) + J 1)) = J 0 ↔ x = 0) : ST N i23 S p0 a m oa k n ln W q (K_lw_law_1454 N i23 S v p0 a m oa (J (k : Int)) a (J x)) := by
  obtain ⟨s, hw, hR0, hd0, hO⟩ := hI
  obtain ⟨⟨h, c, g, t, p, M⟩, sv, ps, re, ca, ch⟩ := s
  have hR : cR S v a (h, c, g, t, p, M) sv ps re ca ch q := hR0
  have hd : dR S v m (h, c, g, t, p, M) sv ps re ca ch := hd0
  have hs : stV h c g t p M := cR_V hR
  have hp0 : kin S p0 = some (11, n) := hO.2.2.2.2.1
  obtain ⟨S', v', u, c1, m1, l1, r1, kp, t1, t2⟩ := law_D (mF := fun S w => F_gm_idealValue N m (J x) S w) hw hR0 hd0 hO (UD_QD (s := ((h, c, g, t, p, M), sv, ps, re, ca, ch)) (gc_idealValue (by omega) hw hR hx)) (fun S1 u hd1 => UM_QM hd1 hs (gm_idealValue (by omega) hd1 hs hx))
  try dsimp only at m1
  have w1 : vp_in (J (k : Int) + J 1) (alen S' p0) := sc_in (j := 1) kp hk (by decide)
  have y1 : gi v' p0 (Int32.toNatClampNeg (J (k : Int) + J 1)) = gi v p0 (Int32.toNatClampNeg (J (k : Int) + J 1)) := by rw [gi_rw, gi_rw, r1]
  refine ⟨S', u, ?_, t1, t2⟩
  unfold K_lw_law_1454
  rw [grd_true _ hR.1.1.1, c1]
  simp only [Option.bind_some]
  rw [grd_true _ (sc_P kp), grd_true _ w1, y1]
  rcases hx with rfl | rfl
  · rw [if_pos (hz.mpr rfl), grd_true _ l1.1, m1]
    simp only [Option.bind_some, if_true]
  · rw [if_neg (fun y => by have := hz.mp y; omega), grd_true _ l1.1, m1]
    simp only [Option.bind_some, if_true]
theorem st_idealValue (hN : 7000000 ≤ N) (hk : k + 5 < n ∧ n ≤ 100000) (hI : LI S v a m oa p0 n ln W q) : ST N i23 S p0 a m oa k n ln W q (K_lw_law_1439 N i23 S v p0 a m oa (J (k : Int))) := by
  have hp0 : kin S p0 = some (11, n) := by
    obtain ⟨s, hw, hR0, hd0, hO⟩ := hI
    exact hO.2.2.2.2.1
  have v1 : vp_in (J (k : Int) + J 1) (alen S p0) := sc_in (j := 1) hp0 hk (by decide)
  unfold K_lw_law_1439
  rw [grd_true _ (sc_P hp0), grd_true _ v1]
  by_cases z : gi v p0 (Int32.toNatClampNeg (J (k : Int) + J 1)) = J 0
  · rw [if_pos z]
    exact st_idealB hN (Or.inl rfl) hk hI ⟨fun _ => rfl, fun _ => z⟩
  · rw [if_neg z]
    exact st_idealB hN (Or.inr rfl) hk hI ⟨fun y => absurd y z, fun y => absurd y (by decide)⟩
end LAWOWN
