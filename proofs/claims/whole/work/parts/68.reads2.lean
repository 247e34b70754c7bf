/-! More that reads alone. -/
section READS2
variable {S : shp} {v : vl} {a m N q : Nat} {h c g t p : Nat → Int} {M : Nat → Nat → Int} {sv : Option sta} {ps : List sta} {re ca ch : Int}
/-- codes of two kinds of throws: of an index, of an argument -/
def f21 (c : Nat) : Nat := if c = 1 then 1 else 0
def segO (t p g : Nat → Int) (i w : Int) : Nat ⊕ Int := if 0 ≤ i ∧ i < g 8 then (if w = 0 then .inr (t i.toNat) else if w = 1 then .inr (p i.toNat) else .inl 2) else .inl 1
theorem gc_segment {i w : Int} (hR : cR S v a (h, c, g, t, p, M) sv ps re ca ch q) (hi : -2147483648 ≤ i ∧ i < 2147483648) (hw : -2147483648 ≤ w ∧ w < 2147483648) : F_gc_segment a (J i) (J w) S v = some (rC f21 (segO t p g i w)) := by
  obtain ⟨k0, g5, n0, r6, n1, r7, n2, hh, hc, hg⟩ := cR_now hR
  obtain ⟨⟨l1, l2, l3, l4, l5⟩, -, ht⟩ := cR_W hR
  have h8 := stV_8 (cR_V hR)
  have e0 : J w = J 0 ↔ w = 0 := J_eq hw (by decide)
  have e1 : J w = J 1 ↔ w = 1 := J_eq hw (by decide)
  unfold F_gc_segment segO
  by_cases z : i < 0
  · rw [if_pos ((J_lt hi (by decide)).mpr z), if_neg (by omega)]
    rfl
  · rw [if_neg (fun y => z ((J_lt hi (by decide)).mp y))]
    simp only [k0, g5, n0, r7, n2, grd_pos, Option.bind_some, gi_x, hg 8 (by decide)]
    by_cases z2 : i < g 8
    · have ti : (J i).toInt = ((i.toNat : Nat) : Int) := by rw [J_toInt (by omega) (by omega)]; omega
      obtain ⟨t1, t2⟩ := ht i.toNat (by omega)
      have n10 : ¬ J 1 = J 0 := by decide
      have v1 := vin_of l2 ti (by omega)
      have v2 := vin_of l3 ti (by omega)
      rw [if_pos ((J_lt hi (by omega)).mpr z2), if_pos (show 0 ≤ i ∧ i < g 8 by omega)]
      by_cases w0 : w = 0
      · rw [if_pos (e0.mpr w0), if_pos w0]
        unfold K_gc_segment_40 F_gc_require
        rw [if_neg n10, bx_r, if_pos (e0.mpr w0)]
        simp only [k0, g5, n0, r7, n2, l2, l4, grd_pos, Option.bind_some]
        rw [grd_true _ v1, clampT ti, gi_rw, t1]
        rfl
      · rw [if_neg (fun y => w0 (e0.mp y)), if_neg w0]
        by_cases w1 : w = 1
        · rw [if_pos (e1.mpr w1), if_pos w1]
          unfold K_gc_segment_40 F_gc_require
          rw [if_neg n10, bx_r, if_neg (fun y => w0 (e0.mp y))]
          simp only [k0, g5, n0, r7, n2, l3, l5, grd_pos, Option.bind_some]
          rw [grd_true _ v2, clampT ti, gi_rw, t2]
          rfl
        · rw [if_neg (fun y => w1 (e1.mp y)), if_neg w1]
          unfold K_gc_segment_40 F_gc_require
          rw [if_pos rfl, bx_l]
          rfl
    · rw [if_neg (fun y => z2 ((J_lt hi (by omega)).mp y)), if_neg (by omega)]
      rfl
theorem gm_segment {i w : Int} (hR : dR S v m (h, c, g, t, p, M) sv ps re ca ch) (hV : stV h c g t p M) (hi : -2147483648 ≤ i ∧ i < 2147483648) (hw : -2147483648 ≤ w ∧ w < 2147483648) : F_gm_segment m (J i) (J w) S v = some (J (oVal (segO t p g i w)), th v m (oThr (segO t p g i w))) := by
  obtain ⟨hl, h1, h2, h3, -⟩ := hR
  have h8 := stV_8 hV
  have n1 : ¬ J 1 = J 0 := by decide
  have R19 : rw (th v m 0) (m + 1) 19 = J (g 8) := by rw [rw_th (by omega), h1.1 19 (by decide)]; rfl
  unfold F_gm_segment segO
  simp only [hl.1, grd_pos, lt_def, si_th, hl.2.1, hl.2.2.1, Option.bind_some, gi_x, R19]
  rw [← J_sub, gm_inRange hi (by decide) (by omega)]
  simp only [Option.bind_some]
  unfold K_gm_segment_28
  by_cases z : 0 ≤ i ∧ i < g 8
  · rw [if_pos (show 0 ≤ i ∧ i ≤ g 8 - 1 by omega), if_neg n1, if_pos z, grd_true _ hl.1, gm_fails0]
    simp only [Option.bind_some, if_true]
    rw [gm_inRange hw (by decide) (by decide)]
    simp only [Option.bind_some]
    unfold K_gm_segment_50
    by_cases y : 0 ≤ w ∧ w ≤ 1
    · rw [if_pos y, if_neg n1, grd_true _ hl.1, gm_fails0]
      simp only [Option.bind_some, if_true]
      have tx : (J 23 + J 2 * J i + J w).toInt = (((23 + 2 * i + w).toNat : Nat) : Int) := by
        rw [← J_mul, ← J_add, ← J_add, J_toInt (by omega) (by omega)]
        omega
      simp only [hl.1, hl.2.1, grd_pos, Option.bind_some]
      rw [grd_true _ hl.2.2.1, grd_true _ (vin_of hl.2.2.1 tx (by omega)), clampT tx, gi_rw, rw_th (by omega)]
      obtain ⟨t1, t2⟩ := h1.2.1 i.toNat (by show ((i.toNat : Nat) : Int) < g 8; omega)
      simp only [lt_def]
      by_cases w0 : w = 0
      · rw [if_pos w0, show (23 + 2 * i + w).toNat = 23 + 2 * i.toNat by omega, t1]
        rfl
      · rw [if_neg w0, if_pos (by omega), show (23 + 2 * i + w).toNat = 24 + 2 * i.toNat by omega, t2]
        rfl
    · rw [if_neg y, if_pos rfl, grd_true _ hl.1, gm_fails1 hl, if_neg (by omega), if_neg (by omega)]
      simp only [Option.bind_some, n1, if_false]
      rw [th_th]
      rfl
  · rw [if_neg (show ¬ (0 ≤ i ∧ i ≤ g 8 - 1) by omega), if_pos rfl, if_neg z, grd_true _ hl.1, gm_fails1 hl]
    simp only [Option.bind_some, n1, if_false]
    rw [th_th]
    rfl
-- measurements
theorem gm_of {i w : Int} {x : Int} (hl : mdL S m) (hx : rw v (m + 1) (39 + 8 * i + w).toNat = J x) (hi : 0 ≤ i ∧ i < 20) (hw : 0 ≤ w ∧ w ≤ 7) : F_gm_of m (J i) (J w) S v = some (J x) := by
  have tx : (J 39 + J 8 * J i + J w).toInt = (((39 + 8 * i + w).toNat : Nat) : Int) := by
    rw [← J_mul, ← J_add, ← J_add, J_toInt (by omega) (by omega)]
    omega
  unfold F_gm_of F_gm_at
  simp only [hl.1, hl.2.1, grd_pos, Option.bind_some]
  rw [grd_true _ hl.2.2.1, grd_true _ (vin_of hl.2.2.1 tx (by omega)), clampT tx, gi_rw, hx]
theorem rowM_m {R : Nat → Int32} (hR : rowM R h c g t p M) {i w : Int} (hi : 0 ≤ i ∧ i < h 5) (hw : 0 ≤ w ∧ w ≤ 7) : R (39 + 8 * i + w).toNat = J (mN (M i.toNat) w) := by
  have := hR.2.2 i.toNat (by omega) w.toNat (by omega)
  rw [show ((w.toNat : Nat) : Int) = w by omega] at this
  rw [← this]
  congr 1
  omega
theorem gm_noMeas {i : Int} (hl : mdL S m) (hr : rw v (m + 1) 22 = J (h 5)) (h5 : 0 ≤ h 5 ∧ h 5 ≤ 20) (hi : -2147483648 ≤ i ∧ i < 2147483648) : F_gm_noMeasurement m (J i) S v = some (if 0 ≤ i ∧ i < h 5 then (J 0, v) else (J 1, th v m 1)) := by
  have n1 : ¬ J 1 = J 0 := by decide
  unfold F_gm_noMeasurement
  simp only [hl.1, hl.2.1, hl.2.2.1, grd_pos, Option.bind_some, gi_x, hr]
  rw [← J_sub, gm_inRange hi (by decide) (by omega)]
  simp only [Option.bind_some]
  by_cases z : 0 ≤ i ∧ i < h 5
  · rw [if_pos (show 0 ≤ i ∧ i ≤ h 5 - 1 by omega), if_neg n1, gm_fails0, if_pos z]
    simp only [Option.bind_some]
    rw [grd_true _ (by decide)]
  · rw [if_neg (show ¬ (0 ≤ i ∧ i ≤ h 5 - 1) by omega), if_pos rfl, gm_fails1 hl, if_neg z]
    simp only [Option.bind_some]
    rw [grd_true _ (by decide)]
def measO (h : Nat → Int) (M : Nat → Nat → Int) (i w : Int) : Nat ⊕ Int := if 0 ≤ i ∧ i < h 5 then (if 0 ≤ w ∧ w ≤ 7 then .inr (mN (M i.toNat) w) else .inl 2) else .inl 1
theorem gc_found {i : Int} (hR : cR S v a (h, c, g, t, p, M) sv ps re ca ch q) (hi : -2147483648 ≤ i ∧ i < 2147483648) : (0 ≤ i ∧ i < h 5 → ∃ r, F_gc_found a (J i) S v = some (.inr (some r)) ∧ kin S r = some (0, 1) ∧ ag 7 (rw v r) (M i.toNat)) ∧ (¬ (0 ≤ i ∧ i < h 5) → F_gc_found a (J i) S v = some (.inl 1)) := by
  obtain ⟨k0, g5, n0, r6, n1, r7, n2, hh, hc, hg⟩ := cR_now hR
  have hV := cR_V hR
  have hv5 := hV.1.2.2.2.2
  have hms : msR S v (a + 11 + 5) (h 5) M := hR.2.1.1.2
  unfold F_gc_found
  simp only [k0, g5, n0, grd_pos, Option.bind_some]
  refine ⟨fun z => ?_, fun z => ?_⟩
  · obtain ⟨r, s1, s2, s3⟩ := st_at_in (i := i.toNat) hR.2.1.1.1.1 (hh 5 (by decide)) hv5.2 hms (by omega)
    rw [show ((i.toNat : Nat) : Int) = i by omega] at s1
    rw [s1]
    exact ⟨r, rfl, s2, s3⟩
  · rw [st_at_out hR.2.1.1.1.1 (hh 5 (by decide)) hv5 hi (by omega)]
    rfl
theorem gc_measurement {i w : Int} (hN : 100 ≤ N) (hR : cR S v a (h, c, g, t, p, M) sv ps re ca ch q) (hi : -2147483648 ≤ i ∧ i < 2147483648) (hw : -2147483648 ≤ w ∧ w < 2147483648) : F_gc_measurement N a (J i) (J w) S v = some (rC f21 (measO h M i w)) := by
  have hV := cR_V hR
  obtain ⟨k0, -⟩ := cR_now hR
  obtain ⟨f1, f2⟩ := gc_found hR hi
  unfold F_gc_measurement measO
  rw [grd_true _ k0]
  by_cases z : 0 ≤ i ∧ i < h 5
  · obtain ⟨r, s1, s2, s3⟩ := f1 z
    rw [s1, bx_r, gc_within hw (by decide) (by decide), if_pos z]
    simp only [oc2]
    by_cases y : 0 ≤ w ∧ w ≤ 7
    · rw [if_pos y, if_pos y, bx_r, grd_true _ s2, ms_number hN s2 s3 (hV.2.2.2.2.2 i.toNat (by omega)) y]
      rfl
    · rw [if_neg y, if_neg y, bx_l]
      rfl
  · rw [f2 z, bx_l, if_neg z]
    rfl
theorem gm_measurement {i w : Int} (hR : dR S v m (h, c, g, t, p, M) sv ps re ca ch) (hV : stV h c g t p M) (hi : -2147483648 ≤ i ∧ i < 2147483648) (hw : -2147483648 ≤ w ∧ w < 2147483648) : F_gm_measurement m (J i) (J w) S v = some (J (oVal (measO h M i w)), th v m (oThr (measO h M i w))) := by
  obtain ⟨hl, h1, h2, h3, -⟩ := hR
  have hv5 := hV.1.2.2.2.2
  have n1 : ¬ J 1 = J 0 := by decide
  have R22 : rw (th v m 0) (m + 1) 22 = J (h 5) := by rw [rw_th (by omega), h1.1 22 (by decide)]; rfl
  unfold F_gm_measurement measO
  rw [grd_true _ hl.1]
  simp only [lt_def, si_th]
  rw [gm_noMeas hl R22 hv5 hi]
  simp only [Option.bind_some]
  by_cases z : 0 ≤ i ∧ i < h 5
  · rw [if_pos z, if_pos z]
    simp only [if_true]
    rw [gm_inRange hw (by decide) (by decide)]
    simp only [Option.bind_some]
    unfold K_gm_measurement_29
    by_cases y : 0 ≤ w ∧ w ≤ 7
    · rw [if_pos y, if_neg n1, if_pos y, grd_true _ hl.1, gm_fails0]
      simp only [Option.bind_some, if_true]
      rw [grd_true _ hl.1, gm_of hl (by rw [rw_th (by omega)]; exact rowM_m h1 z y) (by omega) y]
      rfl
    · rw [if_neg y, if_pos rfl, if_neg y, grd_true _ hl.1, gm_fails1 hl]
      simp only [Option.bind_some, n1, if_false]
      rw [th_th]
      rfl
  · rw [if_neg z, if_neg z]
    simp only [n1, if_false]
    rw [th_th]
    rfl
-- what stands in fields
theorem gc_fields (hR : cR S v a (h, c, g, t, p, M) sv ps re ca ch q) : F_gc_reason a S v = some (J re) ∧ F_gc_cause a S v = some (J ca) ∧ F_gc_chosenBy a S v = some (J ch) := by
  obtain ⟨k0, -⟩ := cR_now hR
  obtain ⟨-, -, -, -, r2, r3, r4⟩ := hR
  unfold F_gc_reason F_gc_cause F_gc_chosenBy
  rw [grd_true _ k0, grd_true _ k0, grd_true _ k0, gi_rw, gi_rw, gi_rw, r2, r3, r4]
  exact ⟨rfl, rfl, rfl⟩
theorem gm_fields (hR : dR S v m (h, c, g, t, p, M) sv ps re ca ch) : F_gm_reason m S v = some (J re, th v m 0) ∧ F_gm_cause m S v = some (J ca, th v m 0) ∧ F_gm_chosenBy m S v = some (J ch, th v m 0) := by
  obtain ⟨hl, -, -, -, -, h7, h8, h9⟩ := hR
  unfold F_gm_reason F_gm_cause F_gm_chosenBy
  simp only [hl.1, grd_pos, lt_def, si_th, gi_x, rw_th0 (show 7 ≠ 10 by decide), rw_th0 (show 8 ≠ 10 by decide), rw_th0 (show 9 ≠ 10 by decide), h7, h8, h9]
  exact ⟨trivial, trivial, trivial⟩
/-- the accounts -/
def auI (g : Nat → Int) : Int32 := if J (g 2) - J (g 6) = J (g 4) * (J (g 3) - J (g 7)) + J (g 5) then J 1 else J 0
theorem gc_addsUp (hR : cR S v a (h, c, g, t, p, M) sv ps re ca ch q) : F_gc_addsUp a S v = some (auI g) := by
  obtain ⟨k0, g5, n0, r6, n1, r7, n2, hh, hc, hg⟩ := cR_now hR
  unfold F_gc_addsUp F_sg_isSumRight auI
  simp only [k0, g5, n0, r7, n2, grd_pos, Option.bind_some, gi_x, hg 2 (by decide), hg 6 (by decide), hg 4 (by decide), hg 3 (by decide), hg 7 (by decide), hg 5 (by decide)]
  by_cases z : J (g 2) - J (g 6) = J (g 4) * (J (g 3) - J (g 7)) + J (g 5)
  · rw [if_pos z, if_pos z]
    exact grd_true _ (by decide)
  · rw [if_neg z, if_neg z]
    exact grd_true _ (by decide)
theorem gm_addsUp (hR : dR S v m (h, c, g, t, p, M) sv ps re ca ch) : F_gm_addsUp m S v = some (auI g, th v m 0) := by
  obtain ⟨hl, h1, -⟩ := hR
  have R : ∀ k, k < 23 → rw (th v m 0) (m + 1) k = J (mk (hX h) (h 0) c g k) := fun k hk => by rw [rw_th (by omega)]; exact h1.1 k hk
  unfold F_gm_addsUp auI
  simp only [hl.1, grd_pos, lt_def, si_th, hl.2.1, hl.2.2.1, Option.bind_some, gi_x, R 17 (by decide), R 4 (by decide), R 18 (by decide), R 15 (by decide)]
  show (if J (g 2 - g 6) = J (g 4) * J (g 3 - g 7) + J (g 5) then some (J 1, th v m 0) else some (J 0, th v m 0)) = _
  rw [J_sub, J_sub]
  split <;> rfl
/-- ticks to the next segment -/
def chZ (h t g : Nat → Int) : Int := if g 9 < g 8 then t (g 9).toNat - h 0 else -1
theorem gc_changesIn (hR : cR S v a (h, c, g, t, p, M) sv ps re ca ch q) : F_gc_changesIn a S v = some (J (chZ h t g)) := by
  obtain ⟨k0, g5, n0, r6, n1, r7, n2, hh, hc, hg⟩ := cR_now hR
  have hV := cR_V hR
  have h8 := stV_8 hV
  unfold F_gc_changesIn
  simp only [k0, g5, n0, r7, n2, grd_pos, Option.bind_some, sg_next (cR_W hR) h8, gi_x, hh 0 (by decide)]
  unfold nsZ chZ
  by_cases z : g 9 < g 8
  · obtain ⟨d1, -⟩ := hV.2.2.1.1.choose_spec.1.2.2.1 (g 9).toNat (by omega)
    rw [if_pos z, if_pos z, if_neg (fun y => by have := (J_eq (by omega) (by decide)).mp y; omega), ← J_sub]
  · rw [if_neg z, if_neg z, if_pos rfl]
theorem gm_changesIn (hR : dR S v m (h, c, g, t, p, M) sv ps re ca ch) (hV : stV h c g t p M) : F_gm_changesIn m S v = some (J (chZ h t g), th v m 0) := by
  obtain ⟨hl, h1, -⟩ := hR
  have h9 := stV_8 hV
  have R : ∀ k, k < 23 → rw (th v m 0) (m + 1) k = J (mk (hX h) (h 0) c g k) := fun k hk => by rw [rw_th (by omega)]; exact h1.1 k hk
  have e9 : (((g 9).toNat : Nat) : Int) = g 9 := by omega
  unfold F_gm_changesIn chZ
  simp only [hl.1, grd_pos, lt_def, si_th, hl.2.1, hl.2.2.1, Option.bind_some, gi_x, R 20 (by decide), R 19 (by decide), R 0 (by decide)]
  show (if J (g 9) = J (g 8) then some (J (-1), th v m 0) else (F_gm_segmentTime m (J (g 9)) S (th v m 0)).bind fun x6 => some (x6 - J (h 0), th v m 0)) = _
  by_cases z : g 9 < g 8
  · rw [if_neg (fun y => by have := (J_eq (by omega) (by omega)).mp y; omega), if_pos z, gm_segTime (i := (g 9).toNat) hl (by rw [e9]; exact J_toInt (by omega) (by omega)) (by omega), rw_th (by omega), rowM_t h1 (show (((g 9).toNat : Nat) : Int) < g 8 by omega), J_sub]
    rfl
  · rw [if_pos (by rw [show g 9 = g 8 by omega]), if_neg z]
-- clock edges to a DRIFT
def absZ (z : Int) : Int := if z < 0 then -z else z
theorem ma_abs {z : Int} (hz : -2147483648 ≤ z ∧ z < 2147483648) : F_ma_abs (J z) S v = some (J (absZ z)) := by
  unfold F_ma_abs absZ
  by_cases q : z < 0
  · rw [if_pos ((J_lt hz (by decide)).mpr q), if_pos q, J_neg]
  · rw [if_neg (fun y => q ((J_lt hz (by decide)).mp y)), if_neg q]
def clkO (c : Nat → Int) (w : Int) : Nat ⊕ Int := if -99 ≤ w ∧ w ≤ 99 then (if w - c 1 = 0 then .inr 0 else if 0 < (w - c 1) * c 2 then .inr (100 * absZ (w - c 1) - c 5 % 100) else .inr (-1)) else .inl 1
theorem rem_J {z : Int} (hz : 0 ≤ z ∧ z < 2147483648) : J z - J z / J 100 * J 100 = J (z % 100) := by
  have tz : (J z).toInt = z := J_toInt (by omega) (by omega)
  refine i_eq.mpr ?_
  rw [i_rem (by rw [tz]; omega) (by rw [tJ]; decide), tz, tJ, J_toInt (by omega) (by omega)]
theorem gc_clocksTo {w : Int} (hR : cR S v a (h, c, g, t, p, M) sv ps re ca ch q) (hw : -2147483648 ≤ w ∧ w < 2147483648) : F_gc_clocksTo a (J w) S v = some (rC (fun _ => 0) (clkO c w)) := by
  obtain ⟨k0, g5, n0, r6, n1, r7, n2, hh, hc, hg⟩ := cR_now hR
  obtain ⟨⟨⟨b0, b1, b2, b3, b4, b5⟩, hb, -⟩⟩ := (cR_V hR).2.1, True.intro
  unfold F_gc_clocksTo clkO
  rw [gc_within hw (by decide) (by decide)]
  by_cases z : -99 ≤ w ∧ w ≤ 99
  · rw [if_pos z, if_pos z, bx_r]
    simp only [k0, g5, n0, r6, n1, grd_pos, Option.bind_some]
    unfold F_ck_edgesToDrift K_ck_edgesToDrift_24
    simp only [n1, grd_pos, gi_x, hc 1 (by decide), hc 2 (by decide), hc 5 (by decide)]
    rw [← J_sub, ma_abs (by omega), rem_J (by omega)]
    simp only [Option.bind_some, lt_def, ← J_mul, ← J_sub]
    rw [Int.mul_comm (absZ (w - c 1)) 100]
    have e0 : (J (w - c 1) = J 0) ↔ w - c 1 = 0 := J_eq (by omega) (by decide)
    have l0 : (J 0 < J (w - c 1)) ↔ 0 < w - c 1 := J_lt (by decide) (by omega)
    have l1 : (J (w - c 1) < J 0) ↔ w - c 1 < 0 := J_lt (by omega) (by decide)
    have a0 : (J 0 < J (c 2)) ↔ 0 < c 2 := J_lt (by decide) (by omega)
    have a1 : (J (c 2) < J 0) ↔ c 2 < 0 := J_lt (by omega) (by decide)
    have cs : c 2 = -1 ∨ c 2 = 0 ∨ c 2 = 1 := by omega
    by_cases y : w - c 1 = 0
    · rw [if_pos (e0.mpr y), if_pos y]
      rfl
    · rw [if_neg (fun x => y (e0.mp x)), if_neg y]
      by_cases y2 : 0 < w - c 1
      · rw [if_pos (l0.mpr y2)]
        rcases cs with k | k | k
        · rw [if_neg (fun x => by have := a0.mp x; omega), k, if_neg (by omega)]
          rfl
        · rw [if_neg (fun x => by have := a0.mp x; omega), k, if_neg (by omega)]
          rfl
        · rw [if_pos (a0.mpr (by omega)), if_neg (fun x => by have := l1.mp x; omega), k, if_pos (by omega)]
          rfl
      · rw [if_neg (fun x => y2 (l0.mp x)), if_pos (l1.mpr (by omega))]
        rcases cs with k | k | k
        · rw [if_pos (a1.mpr (by omega)), k, if_pos (by omega)]
          rfl
        · rw [if_neg (fun x => by have := a1.mp x; omega), k, if_neg (by omega)]
          rfl
        · rw [if_neg (fun x => by have := a1.mp x; omega), k, if_neg (by omega)]
          rfl
  · rw [if_neg z, if_neg z, bx_l]
    rfl
theorem gm_isUpTo {z n : Int} (hz : -2147483648 ≤ z ∧ z < 2147483648) (hn : 0 ≤ n ∧ n ≤ 1000) : F_gm_isUpTo (J z) (J n) S v = some (if -n ≤ z ∧ z ≤ n then J 1 else J 0) := by
  unfold F_gm_isUpTo
  rw [← J_neg, gm_inRange hz (by omega) (by omega)]
  simp only [Option.bind_some]
  split <;> exact grd_true _ (by decide)
theorem gm_clocksTo {w : Int} (hR : dR S v m (h, c, g, t, p, M) sv ps re ca ch) (hV : stV h c g t p M) (hw : -2147483648 ≤ w ∧ w < 2147483648) : F_gm_clocksTo m (J w) S v = some (J (oVal (clkO c w)), th v m (oThr (clkO c w))) := by
  obtain ⟨hl, h1, -⟩ := hR
  obtain ⟨⟨b0, b1, b2, b3, b4, b5⟩, hb, -⟩ := hV.2.1
  have n1 : ¬ J 1 = J 0 := by decide
  have R : ∀ k, k < 23 → rw (th v m 0) (m + 1) k = J (mk (hX h) (h 0) c g k) := fun k hk => by rw [rw_th (by omega)]; exact h1.1 k hk
  unfold F_gm_clocksTo clkO
  rw [grd_true _ hl.1]
  simp only [lt_def, si_th]
  rw [gm_isUpTo hw (by decide)]
  simp only [Option.bind_some]
  unfold K_gm_clocksTo_20
  by_cases z : -99 ≤ w ∧ w ≤ 99
  · rw [if_pos z, if_neg n1, if_pos z, grd_true _ hl.1, gm_fails0]
    simp only [Option.bind_some, if_true, hl.1, hl.2.1, hl.2.2.1, grd_pos, gi_x, R 2 (by decide), R 3 (by decide), R 11 (by decide)]
    show (if J w - J (c 1) = J 0 then some (J 0, th v m 0) else if J 0 < (J w - J (c 1)) * J (c 2) then (F_ma_abs (J w - J (c 1)) S (th v m 0)).bind fun x11 => lt (J 100 * x11 - (J (c 5) - J (c 5) / J 100 * J 100)) fun x12 => some (x12, th v m 0) else some (J (-1), th v m 0)) = _
    rw [← J_sub, ma_abs (by omega), rem_J (by omega), ← J_mul]
    simp only [Option.bind_some, lt_def, ← J_mul, ← J_sub]
    have cs : c 2 = -1 ∨ c 2 = 0 ∨ c 2 = 1 := by omega
    have hp : -2147483648 ≤ (w - c 1) * c 2 ∧ (w - c 1) * c 2 < 2147483648 := by
      rcases cs with k | k | k <;> rw [k] <;> omega
    have e0 : (J (w - c 1) = J 0) ↔ w - c 1 = 0 := J_eq (by omega) (by decide)
    have l0 : (J 0 < J ((w - c 1) * c 2)) ↔ 0 < (w - c 1) * c 2 := J_lt (by decide) hp
    by_cases y : w - c 1 = 0
    · rw [if_pos (e0.mpr y), if_pos y]
      rfl
    · rw [if_neg (fun x => y (e0.mp x)), if_neg y]
      by_cases y2 : 0 < (w - c 1) * c 2
      · rw [if_pos (l0.mpr y2), if_pos y2]
        rfl
      · rw [if_neg (fun x => y2 (l0.mp x)), if_neg y2]
        rfl
  · rw [if_neg z, if_pos rfl, if_neg z, grd_true _ hl.1, gm_fails1 hl]
    simp only [Option.bind_some, n1, if_false]
    rw [th_th]
    rfl
end READS2
