/-! The law: what is printed, and the prescale. -/
section LAWPRINT
variable {S S' : shp} {v w v' u v'' : vl} {a b m N n q r len r' len' l k oa p0 : Nat} {ln : Nat → Nat} {W : Nat → Nat → Int} {s : full} {now : sta} {sv : Option sta} {ps : List sta} {re ca ch : Int} {i23 : shp → vl → Nat → Nat → Nat → Nat → Int32 → Option (Int32 × shp × vl)}
/-- behind a print, both sides -/
theorem LI_prn (hw : wfS S) (hR : cX S v a s q) (hd : dX S v m s) (hO : OT S v a m oa p0 n ln W) (ho : rOut S a m r len) (hx : exP (a + 9) r len S v S' v' r' len') (hr : ∀ y, y ≠ m → y ≠ m + 7 → rw v'' y = rw v' y) (hk : ∀ k, k ≠ 10 → k ≠ 29 → rw v'' m k = rw v' m k) (hB : BO S' v'' a m) : LI S' v'' a m oa p0 n ln W (q + 1) := by
  have hL := hR.1
  have hl := hd.1
  obtain ⟨⟨t1, t2, t3, t4⟩, hI, -, ⟨h1, h2, h3⟩, h4, h5⟩ := hO
  have hl' := mdL_exP hl hw h1 hx
  have R1 : cR S' v' a _ _ _ _ _ _ q := cR_exP hR hw h1 ho hx
  have R2 : cR S' (v'.1, v''.2) a s.1 s.2.1 s.2.2.1 s.2.2.2.1 s.2.2.2.2.1 s.2.2.2.2.2 q := R1
  have F2 : fri m 8 (v'.1, v''.2) v'' := ⟨rfl, fun y hy => hr y (by omega) (by omega)⟩
  have x4 := hx.2.2.2.2.1
  have t4' : kad S' 0 < a := by rw [x4]; exact t4
  obtain ⟨y1, y2, y3⟩ := tPs_exP t1 hw hL.2.2.1 ho.1 hx
  obtain ⟨u1, u2, u3, u5⟩ := dtT_exP t3 hw h1 ho hx
  refine ⟨s, hx.2.2.2.2.2.2.2.2.2.2 hw, cR_q (cR_mod R2 hl' h1 F2) (by omega), dR_rows (dR_exP hd hw h1 ho hx) hl' (hr _ (by omega) (by omega)) (hr _ (by omega) (by omega)) (hr _ (by omega) (by omega)) (fun k _ _ => hk k (by omega) (by omega)), ?_⟩
  exact ⟨⟨⟨y1, y2, fun i hi => by rw [hr _ (by omega) (by omega)]; exact y3 i hi⟩, wdS_eq (wdS_exP t2 hw h1 ho hx) (fun b hb => hr b (by omega) (by omega)), ⟨u1, u2, u3, fun q hq => by rw [hr _ (by omega) (by omega), hr _ (by omega) (by omega)]; exact u5 q hq⟩, t4'⟩, IR_rows (IR_exP hI hL hl hw h1 ho hx) (hr _ (by omega) (by omega)) (hr _ (by omega) (by omega)) (hr _ (by omega) (by omega)) (fun k _ _ => hk k (by omega) (by omega)), hB, ⟨h1, exP_kin hw hx h2, h3⟩, exP_kin hw hx h4, h5⟩
theorem gw_exP (hx : exP b r len S v S' v' r' len') (h : len' ≤ len + 126) : gw S S' := by
  obtain ⟨-, -, -, -, -, -, h7, h8, h9, -⟩ := hx
  unfold gw
  omega
theorem st_printSettings (hN : 7000000 ≤ N) (hI : LI S v a m oa p0 n ln W q) : ST N i23 S p0 a m oa k n ln W q (K_lw_law_2615 N i23 S v p0 a m oa (J (k : Int))) := by
  obtain ⟨s, hw, hR0, hd0, hO⟩ := hI
  obtain ⟨⟨h, c, g, t, p, M⟩, sv, ps, re, ca, ch⟩ := s
  have hR : cR S v a (h, c, g, t, p, M) sv ps re ca ch q := hR0
  have hd : dR S v m (h, c, g, t, p, M) sv ps re ca ch := hd0
  have ham := hO.2.2.2.1.1
  obtain ⟨x, S', v', r, len, r', len', e1, e2, e3, e4, v'', f1, f2, f3, f4, f5, f6⟩ := prset_both (N := N) (by omega) ham hw hR hd hO.2.2.1 hO.1.2.2.1
  try dsimp only at f1
  refine ⟨S', v'', ?_, LI_prn hw hR0 hd0 hO e2 e3 f3 f4 f6, gw_exP e3 e4⟩
  unfold K_lw_law_2615
  rw [grd_true _ hR.1.1.1, e1]
  simp only [Option.bind_some]
  rw [grd_true _ (mdL_exP hd.1 hw ham e3).1, f1]
  simp only [Option.bind_some, if_true]
theorem st_printSignal (hN : 7000000 ≤ N) (hI : LI S v a m oa p0 n ln W q) : ST N i23 S p0 a m oa k n ln W q (K_lw_law_2628 N i23 S v p0 a m oa (J (k : Int))) := by
  obtain ⟨s, hw, hR0, hd0, hO⟩ := hI
  obtain ⟨⟨h, c, g, t, p, M⟩, sv, ps, re, ca, ch⟩ := s
  have hR : cR S v a (h, c, g, t, p, M) sv ps re ca ch q := hR0
  have hd : dR S v m (h, c, g, t, p, M) sv ps re ca ch := hd0
  have ham := hO.2.2.2.1.1
  obtain ⟨x, S', v', r, len, r', len', e1, e2, e3, e4, v'', f1, f2, f3, f4, f5, f6⟩ := prsig_both (N := N) (by omega) ham hw hR hd hO.2.2.1 hO.1.2.2.1
  try dsimp only at f1
  refine ⟨S', v'', ?_, LI_prn hw hR0 hd0 hO e2 e3 f3 f4 f6, gw_exP e3 e4⟩
  unfold K_lw_law_2628
  rw [grd_true _ hR.1.1.1, e1]
  simp only [Option.bind_some]
  rw [grd_true _ (mdL_exP hd.1 hw ham e3).1, f1]
  simp only [Option.bind_some, if_true]
theorem BO_skip : BO (skip S k) v a m = BO S v a m := rfl
theorem dtT_skip : dtT (skip S k) v a = dtT S v a := rfl
theorem st_printMeasurement (hN : 7000000 ≤ N) (hk : k + 5 < n ∧ n ≤ 100000) (hI : LI S v a m oa p0 n ln W q) : ST N i23 S p0 a m oa k n ln W q (K_lw_law_2559 N i23 S v p0 a m oa (J (k : Int))) := by
  obtain ⟨s, hw, hR0, hd0, hO⟩ := hI
  obtain ⟨⟨h, c, g, t, p, M⟩, sv, ps, re, ca, ch⟩ := s
  have hR : cR S v a (h, c, g, t, p, M) sv ps re ca ch q := hR0
  have hd : dR S v m (h, c, g, t, p, M) sv ps re ca ch := hd0
  have hs : stV h c g t p M := cR_V hR
  have ham := hO.2.2.2.1.1
  have ko : kin S oa = some (3, 1) := hO.2.2.2.1.2.1
  have hp0 : kin S p0 = some (11, n) := hO.2.2.2.2.1
  have hpa : p0 < a := hO.2.2.2.2.2
  have v1 : vp_in (J (k : Int) + J 1) (alen S p0) := sc_in (j := 1) hp0 hk (by decide)
  obtain ⟨x1, z1, b1⟩ := sc_ar (gi v p0 (Int32.toNatClampNeg (J (k : Int) + J 1)))
  obtain ⟨pi, po⟩ := prmea_both (i := x1) (N := N) (by omega) ham hw hR hd hO.2.2.1 hO.1.2.2.1 b1
  by_cases hi : 0 ≤ x1 ∧ x1 < h 5
  · obtain ⟨x, S', v', r, len, r', len', e1, e2, e3, e4, e5⟩ := pi hi
    obtain ⟨v'', f1, f2, f3, f4, f5, f6⟩ := e5 (sl v' oa 0 (Int32.toInt64 (J x))).2
    have f1' : F_gm_printMeasurement N m (J x1) S' (sl v' oa 0 (Int32.toInt64 (J x))) = some (J x, v'') := f1
    have hl' := mdL_exP hd.1 hw ham e3
    have ko' := exP_kin hw e3 ko
    have kp' := exP_kin hw e3 hp0
    have hr := e2.2
    have kr := e2.1
    have rp : rw v' p0 = rw v p0 := exP_rw hw e3 hp0 (by omega) (by omega)
    have w1 : vp_in (J (k : Int) + J 1) (alen S' p0) := sc_in (j := 1) kp' hk (by decide)
    have y1 : gi (sl v' oa 0 (Int32.toInt64 (J x))) p0 (Int32.toNatClampNeg (J (k : Int) + J 1)) = J x1 := by
      rw [← z1, gi_rw, gi_rw, ← rp]
      rfl
    have F1 : F_lw_printMeasurement N a (J x1) oa S v = some (J 0, S', sl v' oa 0 (Int32.toInt64 (J x))) := by
      unfold F_lw_printMeasurement
      rw [grd_true _ hR.1.1.1, e1, bx_r]
      show grd (kin S' oa = some (3, alen S' oa)) _ = _
      rw [grd_true _ (by rw [alen_of ko']; exact ko'), grd_true _ (vin_of (k := 0) ko' (by decide) (by decide))]
      rfl
    have eg : gl v'' oa 0 = Int32.toInt64 (J x) := by
      show v''.2 oa 0 = _
      rw [f2]
      show (if oa = oa ∧ (0 : Nat) = 0 then Int32.toInt64 (J x) else v'.2 oa 0) = _
      rw [if_pos ⟨rfl, rfl⟩]
    refine ⟨S', v'', ?_, LI_prn hw hR0 hd0 hO e2 e3 f3 f4 f6, gw_exP e3 e4⟩
    unfold K_lw_law_2559
    rw [grd_true _ (sc_P hp0), grd_true _ v1, z1, F1]
    simp only [Option.bind_some]
    rw [grd_true _ (sc_P kp'), grd_true _ w1, y1, grd_true _ hl'.1, f1']
    simp only [Option.bind_some]
    unfold F_gm_thrown
    rw [grd_true _ hl'.1, gi_rw, f5]
    simp only [Option.bind_some, if_true]
    rw [grd_true _ (by rw [alen_of ko']; exact ko'), grd_true _ (vin_of (k := 0) ko' (by decide) (by decide)), eg, lg_self, if_pos rfl]
  · obtain ⟨g1, -⟩ := po hi
    have hB : thB (.inl 1 : Nat ⊕ (Int × full)) := fun c hc => by cases hc; decide
    have hU : UC (F_gc_printMeasurement N a (J x1) S v) (fun _ => 1) (.inl 1) a (q + 1) S v := g1
    obtain ⟨S', v', l1, l2⟩ := lw_UC (s := ((h, c, g, t, p, M), sv, ps, re, ca, ch)) (thr := (fun k0 => if k0 = 1 then lt (skip S 6) fun S9 => some (((J 1), S9, v)) else none)) hw hR0 hd0 hO hU (fun c hc => by cases hc; rfl) hB
    have hR6 : cR S' v' a (h, c, g, t, p, M) sv ps re ca ch (q + 1) := l2.2.1
    have hd6 : dR S' v' m (h, c, g, t, p, M) sv ps re ca ch := l2.2.2.1
    obtain ⟨-, po6⟩ := prmea_both (i := x1) (N := N) (by omega) ham l2.1 hR6 hd6 l2.2.2.2.1.2.2.1 l2.2.2.2.1.1.2.2.1 b1
    obtain ⟨-, g2⟩ := po6 hi
    have f1 : F_lw_printMeasurement N a (J x1) oa S v = some (J (uThr (.inl 1)), S', v') := by
      unfold F_lw_printMeasurement
      rw [grd_true _ hR.1.1.1]
      exact l1
    obtain ⟨u, t1, t2⟩ := law_tail (N := N) (i23 := i23) (p4 := J (k : Int)) (mF := F_gm_printMeasurement N m (J x1) S' v') l2 hB (UM_QM l2.2.2.1 hs (QM_th (o := .inl 1) g2))
    refine ⟨S', u, ?_, t2, l2.2.2.2.2.1⟩
    have hp' : kin S' p0 = some (11, n) := l2.2.2.2.1.2.2.2.2.1
    have w1 : vp_in (J (k : Int) + J 1) (alen S' p0) := sc_in (j := 1) hp' hk (by decide)
    have y1 : gi v' p0 (Int32.toNatClampNeg (J (k : Int) + J 1)) = J x1 := by rw [gi_rw, l2.2.2.2.2.2.1]; exact z1
    unfold K_lw_law_2559
    rw [grd_true _ (sc_P hp0), grd_true _ v1, z1, f1]
    simp only [Option.bind_some]
    rw [grd_true _ (sc_P hp'), grd_true _ w1, y1]
    exact t1
theorem spO_ex (s : full) (x : Int) : ∃ o, spO s x o ∧ ∀ c, o = .inl c → c = 1 := by
  by_cases z : isP x
  · exact ⟨.inr (s.1.2.2.1 4, (psS x s.1, s.2.1, keepP s.1 s.2.2.1, s.2.2.2)), ⟨fun _ => rfl, fun y => absurd z y⟩, fun c hc => by cases hc⟩
  · exact ⟨.inl 1, ⟨fun y => absurd y z, fun _ => rfl⟩, fun c hc => by cases hc; rfl⟩
theorem st_setPrescale (hN : 7000000 ≤ N) (hq : q ≤ 1000) (hk : k + 5 < n ∧ n ≤ 100000) (hI : LI S v a m oa p0 n ln W q) : ST N i23 S p0 a m oa k n ln W q (K_lw_law_2223 N i23 S v p0 a m oa (J (k : Int))) := by
  obtain ⟨s, hw, hR0, hd0, hO⟩ := hI
  obtain ⟨⟨h, c, g, t, p, M⟩, sv, ps, re, ca, ch⟩ := s
  have hR : cR S v a (h, c, g, t, p, M) sv ps re ca ch q := hR0
  have hd : dR S v m (h, c, g, t, p, M) sv ps re ca ch := hd0
  have hs : stV h c g t p M := cR_V hR
  have hp0 : kin S p0 = some (11, n) := hO.2.2.2.2.1
  obtain ⟨x1, e1, b1⟩ := sc_ar (gi v p0 (Int32.toNatClampNeg (J (k : Int) + J 1)))
  have v1 : vp_in (J (k : Int) + J 1) (alen S p0) := sc_in (j := 1) hp0 hk (by decide)
  obtain ⟨o, ho, hC⟩ := spO_ex ((h, c, g, t, p, M), sv, ps, re, ca, ch) x1
  have hU : UC (F_gc_setPrescale N a (J x1) S v) f10 o a (q + 1) S v := gc_setPrescale (by omega) hw hR hq hO.1.1 b1 ho
  have hB : thB o := fun c hc => by have := hC c hc; omega
  obtain ⟨S', v', l1, l2⟩ := lw_UC (thr := (fun k0 => if k0 = 0 then lt (skip S 6) fun S9 => some (((J 1), S9, v)) else none)) hw hR0 hd0 hO hU (fun c hc => by rcases hC c hc with rfl <;> rfl) hB
  have hd1 : dR S' v' m (h, c, g, t, p, M) sv ps re ca ch := l2.2.2.1
  have f1 : F_lw_setPrescale N a (J x1) oa S v = some (J (uThr o), S', v') := by
    unfold F_lw_setPrescale
    rw [grd_true _ hR.1.1.1]
    exact l1
  obtain ⟨u, t1, t2⟩ := law_tail (N := N) (i23 := i23) (p4 := J (k : Int)) (mF := F_gm_setPrescale N m (J x1) S' v') l2 hB (gm_setPrescale (by omega) hd1 hs (cR_ps hR) b1 ho)
  refine ⟨S', u, ?_, t2, l2.2.2.2.2.1⟩
  have hp' : kin S' p0 = some (11, n) := l2.2.2.2.1.2.2.2.2.1
  have w1 : vp_in (J (k : Int) + J 1) (alen S' p0) := sc_in (j := 1) hp' hk (by decide)
  have y1 : gi v' p0 (Int32.toNatClampNeg (J (k : Int) + J 1)) = J x1 := by rw [gi_rw, l2.2.2.2.2.2.1]; exact e1
  unfold K_lw_law_2223
  rw [grd_true _ (sc_P hp0), grd_true _ v1, e1, f1]
  simp only [Option.bind_some]
  rw [grd_true _ (sc_P hp'), grd_true _ w1, y1]
  exact t1
end LAWPRINT
