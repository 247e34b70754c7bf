/-! What is printed: a measurement; and a letter of it. -/
section PMEAS
variable {S S' : shp} {v w v' u : vl} {a b m N n q r len r' len' l : Nat} {h c g t p : Nat → Int} {M : Nat → Nat → Int} {s now : sta} {sv : Option sta} {ps : List sta} {re ca ch : Int} {X : Nat × (Nat → Int)} {z : Nat → Int} {O O' : Nat → Int}
theorem OC_eq (h : OC S v b l O r len) (he : ∀ i, i < l → O' i = O i) : OC S v b l O' r len := by
  obtain ⟨y0, y1, y2, y3, y4, y5, y6⟩ := h
  exact ⟨y0, y1, y2, y3, y4, y5, fun i hi => by rw [he i hi]; exact y6 i hi⟩
theorem sb_hide1 {i : Nat} (hO : OC S v b l O r len) (hi : i < l) : ∃ v', F_sb_setCharAt b (J (i : Int)) (J 120) S v = some v' ∧ OC S v' b l (fun j => if j = i then 120 else O j) r len ∧ exP b r len S v S v' r len := by
  obtain ⟨k0, ⟨c1, c3⟩, g0, kr, hb, hbt, ht⟩ := id hO
  have hrb := OC_ne hO
  have ti : (J (i : Int)).toInt = (i : Int) := J_toInt (by omega) (by omega)
  have bc : Int8.toInt32 (Int32.toInt8 (Int8.toInt32 (Int32.toInt8 (J 120)))) &&& J 255 = J 120 := by
    rw [by_8]
    exact chr_7 ⟨120, by decide⟩
  refine ⟨wr v r (up (rw v r) i (Int8.toInt32 (Int32.toInt8 (Int8.toInt32 (Int32.toInt8 (J 120)))))), ?_, ⟨k0, ⟨by rw [rw_wr_ne hrb.symm]; exact c1, by rw [rw_wr_ne hrb.symm]; exact c3⟩, g0, kr, hb, by rw [rw_wr]; exact bts_up hbt, fun j hj => ?_⟩, exP_wr (Or.inr rfl)⟩
  · unfold F_sb_setCharAt F_ab_setCharAt F_js_checkIndex F_pr_checkIndex
    rw [grd_true _ k0, grd_true _ k0, gi_rw, c3, if_neg (fun y => by have := (J_lt (by omega) (by decide)).mp y; omega), if_pos ((J_lt (by omega) (by omega)).mpr (by omega))]
    simp only [Option.bind_some]
    rw [ab_latin hO]
    simp only [Option.bind_some]
    rw [if_neg (show ¬ J 1 = J 0 by decide)]
    unfold F_l1_canEncode
    rw [if_neg (by decide)]
    simp only [Option.bind_some]
    rw [if_neg (show ¬ J 1 = J 0 by decide), g0]
    simp only [Option.bind_some]
    rw [grd_true _ (by rw [alen_of kr]; exact kr), grd_true _ (vin_of kr ti (by omega)), clampT ti]
    simp only [lt_def, si_wr, Option.bind_some]
  · rw [rw_wr]
    show _ = J (if j = i then 120 else O j)
    by_cases y : j = i
    · rw [y, up_same, if_pos rfl]
      exact bc
    · rw [up_ne y, if_neg y]
      exact ht j hj
theorem sb_hideL (hL : gcL S a) : ∀ (d i F : Nat) (v : vl) (O : Nat → Int), l ≤ i + d → i ≤ 1000 → l ≤ 142 → d < F → OC S v (a + 9) l O r len → ∃ v', K_gc_printMeasurement_83 N F S v a (J (i : Int)) = some (.inr (J (l : Int), S, v')) ∧ OC S v' (a + 9) l (fun j => if i ≤ j then 120 else O j) r len ∧ exP (a + 9) r len S v S v' r len
  | _, _, 0, _, _, _, _, _, h, _ => absurd h (Nat.not_lt_zero _)
  | 0, i, F + 1, v, O, hd, hi, hl, _, hO => by
    refine ⟨v, ?_, OC_eq hO (fun j hj => if_neg (by omega)), exP_refl⟩
    show Y_gc_printMeasurement_83 N (K_gc_printMeasurement_83 N F) S v a (J (i : Int)) = _
    unfold Y_gc_printMeasurement_83
    rw [grd_true _ hL.1.1, hL.1.2.2.1]
    simp only [Option.bind_some]
    rw [grd_true _ hL.2.2.1, sb_len hO]
    simp only [Option.bind_some]
    rw [if_neg (fun y => by have := (J_lt (by omega) (by omega)).mp y; omega)]
  | d + 1, i, F + 1, v, O, hd, hi, hl, hF, hO => by
    show ∃ v', Y_gc_printMeasurement_83 N (K_gc_printMeasurement_83 N F) S v a (J (i : Int)) = some (.inr (J (l : Int), S, v')) ∧ _
    unfold Y_gc_printMeasurement_83
    rw [grd_true _ hL.1.1, hL.1.2.2.1]
    simp only [Option.bind_some]
    rw [grd_true _ hL.2.2.1, sb_len hO]
    simp only [Option.bind_some]
    by_cases y : i < l
    · obtain ⟨v1, a1, a2, a3⟩ := sb_hide1 hO y
      obtain ⟨v2, b1, b2, b3⟩ := sb_hideL hL d (i + 1) F v1 _ (by omega) (by omega) hl (by omega) a2
      refine ⟨v2, ?_, OC_eq b2 (fun j hj => ?_), exP_tr a3 b3⟩
      · rw [if_pos ((J_lt (by omega) (by omega)).mpr (by omega)), a1]
        simp only [Option.bind_some]
        rw [J_s]
        exact b1
      · show (if i ≤ j then (120 : Int) else O j) = (if i + 1 ≤ j then 120 else (if j = i then 120 else O j))
        by_cases y1 : i + 1 ≤ j
        · rw [if_pos (by omega), if_pos y1]
        · rw [if_neg y1]
          by_cases y2 : j = i
          · rw [if_pos (by omega), if_pos y2]
          · rw [if_neg (by omega), if_neg y2]
    · refine ⟨v, ?_, OC_eq hO (fun j hj => if_neg (by omega)), exP_refl⟩
      rw [if_neg (fun y' => y (by have := (J_lt (by omega) (by omega)).mp y'; omega))]
/-- a measurement's head, its text -/
def meH (z : Nat → Int) : Nat × (Nat → Int) := cP 58 (nP (z 3) (cP (if z 0 = 0 then 103 else 112) (0, fun _ => 0)))
def meL (z : Nat → Int) : Nat := (maxZ 1 (dgZ (z 3))).toNat
def meT (z : Nat → Int) : Nat × (Nat → Int) := ((meH z).1 + nd (z 4).natAbs, nuT (meH z).2 (meH z).1 (meL z) (z 4).natAbs (nd (z 4).natAbs))
theorem meL_B : 1 ≤ meL z ∧ meL z ≤ 10 := by
  have := dgZ_B (z 3)
  unfold meL maxZ
  split <;> omega
theorem meH_B (hz : msV z) : (meH z).1 ≤ 13 ∧ aT (meH z) := by
  obtain ⟨z0, z1, z2, z3, z4, -⟩ := hz
  have l1 := sgL_B (x := z 3) (by omega)
  refine ⟨?_, aT_c (aT_n (aT_c (fun i hi => absurd hi (Nat.not_lt_zero _)) ?_)) (by decide)⟩
  · show 0 + 1 + sgL' (z 3) + 1 ≤ 13
    omega
  · split <;> decide
theorem prmea_both {i : Int} (hN : 100 ≤ N) (ham : a + 84 ≤ m) (hw : wfS S) (hR : cR S v a (h, c, g, t, p, M) sv ps re ca ch q) (hd : dR S v m (h, c, g, t, p, M) sv ps re ca ch) (hB : BO S v a m) (hT : dtT S v a) (hi : -2147483648 ≤ i ∧ i < 2147483648) :
    (0 ≤ i ∧ i < h 5 → ∃ (x : Int) (S' : shp) (v' : vl) (r len r' len' : Nat), F_gc_printMeasurement N a (J i) S v = some (.inr (J x, S', v')) ∧ rOut S a m r len ∧ exP (a + 9) r len S v S' v' r' len' ∧ len' ≤ len + 126 ∧ ∀ L, ∃ v'', F_gm_printMeasurement N m (J i) S' (v'.1, L) = some (J x, v'') ∧ v''.2 = L ∧ (∀ y, y ≠ m → y ≠ m + 7 → rw v'' y = rw v' y) ∧ (∀ k, k ≠ 10 → k ≠ 29 → rw v'' m k = rw v' m k) ∧ rw v'' m 10 = J 0 ∧ BO S' v'' a m) ∧
    (¬ (0 ≤ i ∧ i < h 5) → F_gc_printMeasurement N a (J i) S v = some (.inl 1) ∧ F_gm_printMeasurement N m (J i) S v = some (J 0, th v m 1)) := by
  have hL := hR.1
  have hl := hd.1
  have hV := cR_V hR
  have h5 := hV.1.2.2.2.2
  have n1 : ¬ J 1 = J 0 := by decide
  obtain ⟨f1, f2⟩ := gc_found hR hi
  have mno : ∀ (S : shp) (v : vl), mdL S m → rw v (m + 1) 22 = J (h 5) → F_gm_noMeasurement m (J i) S (th v m 0) = some (if 0 ≤ i ∧ i < h 5 then (J 0, th v m 0) else (J 1, th (th v m 0) m 1)) := fun S v hl' hr => gm_noMeas hl' (by rw [rw_th (by omega)]; exact hr) h5 hi
  constructor
  · intro hin
    obtain ⟨ms, s1, s2, s3⟩ := f1 hin
    obtain ⟨z, hz⟩ : ∃ z, z = M i.toNat := ⟨_, rfl⟩
    rw [← hz] at s3
    have mV : msV z := by rw [hz]; exact hV.2.2.2.2.2 i.toNat (by omega)
    obtain ⟨z0, z1, z2, z3, z4, -⟩ := id mV
    have dB := dgZ_B (z 3)
    have mB := meL_B (z := z)
    have hB' := meH_B mV
    obtain ⟨Y, r, len, hO, ho, hM, hA⟩ := hB
    have kr := ho.1
    have nb : ∀ {S1 : shp}, kin S1 ms = some (0, 1) → kin S1 (a + 9) = some (0, 7) → ms ≠ a + 9 := fun e1 e2 e => by rw [e, e2] at e1; cases e1
    obtain ⟨v1, a1, a2, a3⟩ := sb_zero hw hO
    have G0 := gI_exP (q := q) (sv := sv) (ps := ps) (re := re) (ca := ca) (ch := ch) ⟨hw, hl, hR, ho, hT⟩ ham a3 a2
    have O0 : OC S v1 (a + 9) ((0, fun _ => 0) : Nat × (Nat → Int)).1 ((0, fun _ => 0) : Nat × (Nat → Int)).2 r len := by
      obtain ⟨y0, y1, y2, y3, y4, y5, y6⟩ := a2
      exact ⟨y0, y1, y2, y3, y4, y5, fun i hi => absurd hi (Nat.not_lt_zero _)⟩
    -- the measurement's row stays
    have keep : ∀ {S1 S2 : shp} {u1 u2 : vl} {x1 y1 x2 y2 : Nat}, wfS S1 → exP (a + 9) x1 y1 S1 u1 S2 u2 x2 y2 → kin S1 x1 = some (2, y1) → kin S1 (a + 9) = some (0, 7) → kin S1 ms = some (0, 1) → ag 7 (rw u1 ms) z → kin S2 ms = some (0, 1) ∧ ag 7 (rw u2 ms) z := by
      intro S1 S2 u1 u2 x1 y1 x2 y2 w1 hx e1 e2 e3 e4
      refine ⟨exP_kin w1 hx e3, ?_⟩
      rw [exP_rw w1 hx e3 (fun e => by rw [e, e2] at e3; cases e3) (fun e => by rw [e, e1] at e3; cases e3)]
      exact e4
    obtain ⟨M1k, M1r⟩ := keep hw a3 kr hL.2.2.1 s2 s3
    obtain ⟨cc, hcc⟩ : ∃ cc : Int, cc = if z 0 = 0 then 103 else 112 := ⟨_, rfl⟩
    have ccB : 0 ≤ cc ∧ cc ≤ 127 := by rw [hcc]; split <;> decide
    obtain ⟨S2, v2, r2, len2, b1, b2, b3⟩ := sb_c (c := cc) G0.1 O0 ccB (by decide)
    have G2 := gI_exP G0 ham b3 b2
    obtain ⟨M2k, M2r⟩ := keep G0.1 b3 G0.2.2.2.1.1 G0.2.2.1.1.2.2.1 M1k M1r
    have ho2 := G2.2.2.2.1.2
    obtain ⟨S3, v3, r3, len3, c1, c2, c3⟩ := sb_n (N := N) (x := z 3) hN G2.1 G2.2.2.2.2 b2 (by omega) (by show 0 + 1 + 11 ≤ 142; decide) (by omega) (by omega)
    have G3 := gI_exP G2 ham c3 c2
    obtain ⟨M3k, M3r⟩ := keep G2.1 c3 G2.2.2.2.1.1 G2.2.2.1.1.2.2.1 M2k M2r
    have l3 := sgL_B (x := z 3) (by omega)
    obtain ⟨S4, v4, r4, len4, d1, d2, d3⟩ := sb_c (c := 58) G3.1 c2 (by decide) (by show 0 + 1 + sgL' (z 3) + 1 ≤ 142; omega)
    have G4 := gI_exP G3 ham d3 d2
    obtain ⟨M4k, M4r⟩ := keep G3.1 d3 G3.2.2.2.1.1 G3.2.2.1.1.2.2.1 M3k M3r
    have eH : cP 58 (nP (z 3) (cP cc (0, fun _ => 0))) = meH z := by rw [hcc]; rfl
    rw [eH] at d2
    have ho4 := G4.2.2.2.1.2
    obtain ⟨S5, v5, r5, len5, e1, e2, e3⟩ := sb_n (N := N) (x := z 4) hN G4.1 G4.2.2.2.2 d2 (by omega) (by omega) (by omega) (by omega)
    have G5 := gI_exP G4 ham e3 e2
    have l4 := sgL_B (x := z 4) (by omega)
    have e4s : (nP (z 4) (meH z)).1 = (meT z).1 := by
      show (meH z).1 + sgL' (z 4) = (meH z).1 + nd (z 4).natAbs
      unfold sgL'
      rw [if_neg (by omega), Nat.zero_add]
    rw [e4s] at e2
    have t1 : (meT z).1 = (meH z).1 + nd (z 4).natAbs := rfl
    have tB : (meT z).1 ≤ 24 := by
      have h1 : (nP (z 4) (meH z)).1 ≤ 24 := by
        show (meH z).1 + sgL' (z 4) ≤ 24
        omega
      omega
    obtain ⟨v6, g1, g2, g3⟩ := sb_hideL (N := N) G5.2.2.1.1 (meT z).1 ((meH z).1 + meL z) N v5 _ (by omega) (by omega) (by omega) (by omega) e2
    have G2' : OC S5 v6 (a + 9) (meT z).1 (meT z).2 r5 len5 := by
      refine OC_eq g2 (fun j hj => ?_)
      show nuT (meH z).2 (meH z).1 (meL z) (z 4).natAbs (nd (z 4).natAbs) j = if (meH z).1 + meL z ≤ j then 120 else sgT (meH z).2 (meH z).1 (z 4) j
      unfold sgT
      rw [if_neg (show ¬ z 4 < 0 by omega)]
      have n10 := (nd_B (y := (z 4).natAbs) (by omega)).2
      unfold nuT
      by_cases y1 : (meH z).1 ≤ j ∧ j < (meH z).1 + nd (z 4).natAbs
      · rw [if_pos y1, if_pos y1]
        by_cases y2 : j - (meH z).1 < meL z
        · rw [if_pos y2, if_neg (by omega), if_pos (by omega)]
        · rw [if_neg y2, if_pos (by omega)]
      · rw [if_neg y1, if_neg y1, if_neg (by omega)]
    have X' := exP_tr (exP_tr (exP_tr (exP_tr (exP_tr a3 b3) c3) d3) e3) g3
    have aTm : aT (meT z) := aT_nu hB'.2
    -- the class's call
    have k32 : K_gc_printMeasurement_32 N S v1 a ms (a + 9) (J cc) = some (.inr (J (((meT z).1 : Nat) : Int), S5, v6)) := by
      unfold K_gc_printMeasurement_32
      rw [grd_true _ G0.2.2.1.1.2.2.1, b1]
      simp only [Option.bind_some, oc2]
      rw [grd_true _ M2k, grd_true _ G2.2.2.1.1.2.2.1, gi_rw, M2r 3 (by decide), c1]
      simp only [Option.bind_some, oc2]
      rw [grd_true _ G3.2.2.1.1.2.2.1, d1]
      simp only [Option.bind_some, oc2]
      rw [grd_true _ G4.2.2.1.1.1.1, G4.2.2.1.1.1.2.2.1]
      simp only [Option.bind_some]
      rw [grd_true _ G4.2.2.1.1.2.2.1, sb_len d2]
      simp only [Option.bind_some]
      rw [gi_rw, M4r 3 (by decide), gc_digitsOf hN (by omega)]
      simp only [Option.bind_some]
      rw [ma_maxJ (by decide) (by omega)]
      simp only [Option.bind_some]
      rw [gi_rw, M4r 4 (by decide), e1]
      simp only [Option.bind_some, oc2]
      have eL : J (((meH z).1 : Nat) : Int) + J (maxZ 1 (dgZ (z 3))) = J (((meH z).1 + meL z : Nat) : Int) := by
        rw [← J_add]
        congr 1
        have : ((meL z : Nat) : Int) = maxZ 1 (dgZ (z 3)) := by
          have := meL_B (z := z)
          unfold meL at this ⊢
          omega
        omega
      rw [eL]
      exact g1
    have call : F_gc_printMeasurement N a (J i) S v = some (Sum.inr (J (((meT z).1 : Nat) : Int), S5, v6)) := by
      unfold F_gc_printMeasurement
      rw [grd_true _ hL.1.1, s1, bx_r]
      simp only [oc2]
      rw [hL.1.2.2.1]
      simp only [Option.bind_some]
      rw [grd_true _ hL.2.2.1, a1]
      simp only [Option.bind_some]
      rw [hL.1.2.2.1]
      simp only [Option.bind_some]
      rw [grd_true _ s2, gi_rw, M1r 0 (by decide)]
      by_cases y : z 0 = 0
      · rw [if_pos (by rw [y])]
        rw [hcc, if_pos y] at k32
        exact k32
      · rw [if_neg (fun y' => y ((J_eq (by omega) (by decide)).mp y'))]
        rw [hcc, if_neg y] at k32
        exact k32
    -- the model's
    have hl' := mdL_exP hl hw ham X'
    have rr := fun x (hx : m ≤ x ∧ x < m + 8) => mrow_exP hl hw ham ho X' hx
    have hd' : dR S5 v6 m (h, c, g, t, p, M) sv ps re ca ch := dR_exP hd hw ham ho X'
    have b4 := rOut_exP hw hl ho X' G2'
    refine ⟨(((meT z).1 : Nat) : Int), S5, v6, r, len, r5, len5, call, ho, X', (by have := hO.2.2.2.2.1; have := G2'.2.2.2.2.1; omega), fun L => ?_⟩
    obtain ⟨y6, ey⟩ : ∃ y6 : vl, y6 = (v6.1, L) := ⟨_, rfl⟩
    have ry : ∀ x, rw y6 x = rw v6 x := fun x => by rw [ey]; rfl
    rw [← ey]
    obtain ⟨Rw, eR, e29, e10, eo⟩ := th29 (v := y6) (x := 0) hl'
    have row : rowM (rw v6 (m + 1)) h c g t p M := hd'.2.1
    have ofs : ∀ (u : vl) (w : Int), rw u (m + 1) = rw v6 (m + 1) → 0 ≤ w ∧ w ≤ 7 → F_gm_of m (J i) (J w) S5 u = some (J (mN z w)) := fun u w hu hw' => gm_of hl' (by rw [hu, hz]; exact rowM_m row hin hw') (by omega) hw'
    obtain ⟨u1, p1, p2, p3⟩ := gm_c (c := cc) (S := S5) (v := wr y6 m Rw) (X := (0, fun _ => 0)) hl' ⟨by rw [rw_wr]; exact e29, Nat.zero_le _, fun i hi => absurd hi (Nat.not_lt_zero _)⟩ (by decide)
    obtain ⟨u2, q1, q2, q3⟩ := gm_n (N := N) (x := z 3) hN hl' (by omega) p2 (by show 0 + 1 + 11 ≤ 300; decide)
    obtain ⟨u3, x1, x2, x3⟩ := gm_c (c := 58) hl' q2 (by show 0 + 1 + sgL' (z 3) < 300; omega)
    rw [eH] at x2
    obtain ⟨u4, y1, y2, y3⟩ := gm_part (N := N) (y := (z 4).natAbs) (lim := meL z) hN hl' (by omega) mB.2 x2 (by omega)
    have F4 := f07_tr (f07_tr (f07_tr p3 q3) x3) y3
    have r1 : rw u1 (m + 1) = rw v6 (m + 1) := by rw [p3.2.1 _ (by omega) (by omega), rw_wr_ne (by omega), ry]
    have r2' : rw u2 (m + 1) = rw v6 (m + 1) := by rw [q3.2.1 _ (by omega) (by omega), r1]
    have r3' : rw u3 (m + 1) = rw v6 (m + 1) := by rw [x3.2.1 _ (by omega) (by omega), r2']
    have m38 : K_gm_printMeasurement_38 N S5 (wr y6 m Rw) m (J i) m (J cc) = some (J (((meT z).1 : Nat) : Int), u4) := by
      unfold K_gm_printMeasurement_38
      rw [grd_true _ hl'.1, p1]
      simp only [Option.bind_some]
      rw [grd_true _ hl'.1, ofs u1 3 r1 (by decide)]
      simp only [Option.bind_some]
      rw [show mN z 3 = z 3 from rfl, q1]
      simp only [Option.bind_some]
      rw [x1]
      simp only [Option.bind_some]
      rw [ofs u3 4 r3' (by decide)]
      simp only [Option.bind_some]
      rw [ofs u3 5 r3' (by decide)]
      simp only [Option.bind_some]
      rw [show mN z 5 = dgZ (z 3) from rfl, show mN z 4 = z 4 from rfl, ma_maxJ (by decide) (by omega)]
      simp only [Option.bind_some]
      have eL : J (maxZ 1 (dgZ (z 3))) = J ((meL z : Nat) : Int) := by
        have := meL_B (z := z)
        unfold meL at this ⊢
        congr 1
        omega
      rw [eL, show J (z 4) = J (((z 4).natAbs : Nat) : Int) by congr 1; omega, y1]
      simp only [Option.bind_some]
      rw [gi_rw, y2.1]
      rfl
    refine ⟨u4, ?_, F4.1.trans (by rw [ey]; rfl), fun y y0 y7 => by rw [F4.2.1 y y0 y7, rw_wr_ne y0, ry], fun k k10 k29 => by rw [F4.2.2 k k29, rw_wr, eo k k10 k29, ry], by rw [F4.2.2 10 (by decide), rw_wr]; exact e10, BO_07 (X := meT z) G2' b4 ham (fun y y0 y7 => by rw [F4.2.1 y y0 y7, rw_wr_ne y0, ry]) y2 aTm⟩
    unfold F_gm_printMeasurement
    rw [grd_true _ hl'.1]
    simp only [lt_def]
    rw [si_th, mno S5 y6 hl' (by rw [ry]; exact row.1 22 (by decide)), if_pos hin]
    simp only [Option.bind_some, if_true]
    have e10' : si (th y6 m 0) m 29 (J 0) = wr y6 m Rw := by
      rw [← si_th]
      exact eR
    rw [e10', ofs _ 0 (by rw [rw_wr_ne (by omega), ry]) (by decide)]
    simp only [Option.bind_some]
    rw [show mN z 0 = z 0 from rfl]
    by_cases y : z 0 = 0
    · rw [if_neg (fun y' => by have := (J_eq (by omega) (by decide)).mp y'; omega)]
      rw [hcc, if_pos y] at m38
      exact m38
    · rw [if_pos (by rw [show z 0 = 1 by omega])]
      rw [hcc, if_neg y] at m38
      exact m38
  · intro hout
    refine ⟨?_, ?_⟩
    · unfold F_gc_printMeasurement
      rw [grd_true _ hL.1.1, f2 hout, bx_l]
    · have row : rowM (rw v (m + 1)) h c g t p M := hd.2.1
      unfold F_gm_printMeasurement
      rw [grd_true _ hl.1]
      simp only [lt_def, si_th]
      rw [mno S v hl (row.1 22 (by decide)), if_neg hout]
      simp only [Option.bind_some]
      rw [if_neg n1, th_th]
theorem chr_9 : ∀ c : Fin 128, UInt32.toInt32 (Int32.toUInt32 (J ((c.val : Nat) : Int)) % 65536) = J ((c.val : Nat) : Int) ∧ narrow .char (.int (J ((c.val : Nat) : Int))) = .int (J ((c.val : Nat) : Int)) := by decide +kernel
theorem out_both {i : Int} (hL : gcL S a) (hl : mdL S m) (hB : BO S v a m) (hi : -2147483648 ≤ i ∧ i < 2147483648) : ∃ x, F_gc_outputByte a (J i) S v = some x ∧ F_gm_outputByte m (J i) S v = some (x, th v m 0) := by
  obtain ⟨X, r, len, hO, ho, hM, hA⟩ := hB
  obtain ⟨k0, ⟨c1, c3⟩, g0, kr, hb, hbt, ht⟩ := id hO
  obtain ⟨l0, -, -, -, -, -, -, -, ⟨g28, l7⟩⟩ := id hl
  have el : nI (alen S r) = J (len : Int) := by rw [alen_of kr]; rfl
  have md : F_gm_outputByte m (J i) S v = if 0 ≤ i ∧ i ≤ (X.1 : Int) - 1 then some (rw v (m + 7) i.toNat, th v m 0) else some (J (-1), th v m 0) := by
    unfold F_gm_outputByte
    rw [grd_true _ l0]
    simp only [lt_def, si_th]
    rw [gi_rw, rw_th0 (by decide), hM.1, ← J_sub, gm_inRange hi (by decide) (by omega)]
    simp only [Option.bind_some]
    by_cases z : 0 ≤ i ∧ i ≤ (X.1 : Int) - 1
    · have ti : (J i).toInt = ((i.toNat : Nat) : Int) := by rw [J_toInt hi.1 hi.2]; omega
      have hM2 := hM.2.1
      rw [if_pos z, if_neg (by decide), if_pos z, g28]
      simp only [Option.bind_some]
      rw [grd_true _ l7, grd_true _ (vin_of l7 ti (by omega)), clampT ti, gi_rw, rw_th (by omega)]
    · rw [if_neg z, if_pos rfl, if_neg z]
  by_cases z : 0 ≤ i ∧ i ≤ (X.1 : Int) - 1
  · have ti : (J i).toInt = ((i.toNat : Nat) : Int) := by rw [J_toInt hi.1 hi.2]; omega
    obtain ⟨a1, a2⟩ := hA i.toNat (by omega)
    have ec : X.2 i.toNat = (((X.2 i.toNat).toNat : Nat) : Int) := by omega
    obtain ⟨y1, y2⟩ := chr_9 ⟨(X.2 i.toNat).toNat, by omega⟩
    rw [← ec] at y1 y2
    refine ⟨J (X.2 i.toNat), ?_, by rw [md, if_pos z, hM.2.2 i.toNat (by omega)]⟩
    unfold F_gc_outputByte
    rw [if_neg (fun y => by have := (J_lt (by omega) (by decide)).mp y; omega), grd_true _ hL.1.1, hL.1.2.2.1]
    simp only [Option.bind_some]
    rw [grd_true _ hL.2.2.1, sb_len hO]
    simp only [Option.bind_some]
    rw [if_pos ((J_lt (by omega) (by omega)).mpr (by omega))]
    unfold F_sb_charAt F_ab_charAt F_js_checkIndex F_pr_checkIndex
    rw [grd_true _ k0, grd_true _ k0, g0]
    simp only [Option.bind_some]
    rw [grd_true _ ⟨2, len, kr, by decide⟩, gi_rw, gi_rw, c1, c3, el, shr_0, ma_minJ (by omega) (by omega)]
    simp only [Option.bind_some]
    have em : minZ (X.1 : Int) (len : Int) = (X.1 : Int) := by
      unfold minZ
      split <;> omega
    rw [em, if_neg (fun y => by have := (J_lt (by omega) (by decide)).mp y; omega), if_pos ((J_lt (by omega) (by omega)).mpr (by omega))]
    simp only [Option.bind_some, if_true]
    rw [grd_true _ (Or.inl (by rw [alen_of kr]; exact kr)), grd_true _ (vin_of kr ti (by omega)), clampT ti, gi_rw, ht i.toNat (by omega)]
    simp only [lt_def]
    rw [y1, grd_true _ y2]
    simp only [Option.bind_some]
    rw [grd_true _ y2]
    rfl
  · refine ⟨J (-1), ?_, by rw [md, if_neg z]⟩
    unfold F_gc_outputByte
    by_cases y : i < 0
    · rw [if_pos ((J_lt (by omega) (by decide)).mpr y)]
    · rw [if_neg (fun y' => y ((J_lt (by omega) (by decide)).mp y')), grd_true _ hL.1.1, hL.1.2.2.1]
      simp only [Option.bind_some]
      rw [grd_true _ hL.2.2.1, sb_len hO]
      simp only [Option.bind_some]
      rw [if_neg (fun y' => by have := (J_lt (by omega) (by omega)).mp y'; omega)]
end PMEAS
