/-! A segment more. -/
section ADDSEG
variable {S : shp} {v : vl} {a b m N q : Nat} {h c g t p X : Nat → Int} {M : Nat → Nat → Int} {now : sta} {sv : Option sta} {ps : List sta} {re ca ch : Int} {x y : Int}
def apT (g : Nat → Int) (x : Int) (t : Nat → Int) : Nat → Int := fun i => if (i : Int) = g 8 then x else t i
def apG (g : Nat → Int) : Nat → Int := fun j => if j = 8 then g 8 + 1 else g j
/-- the last segment's time -/
def lsZ (g t : Nat → Int) : Int := if 0 < g 8 then t (g 8 - 1).toNat else -1
def asS (s : sta) (x y : Int) : sta := (s.1, s.2.1, apG s.2.2.1, apT s.2.2.1 x s.2.2.2.1, apT s.2.2.1 y s.2.2.2.2.1, s.2.2.2.2.2)
def asO (s : full) (x y : Int) : Nat ⊕ (Int × full) := if (maxZ (s.1.1 0) (lsZ s.1.2.2.1 s.1.2.2.2.1) + 1 ≤ x ∧ x ≤ 1999999) ∧ (0 ≤ y ∧ y ≤ 9999) then (if s.1.2.2.1 8 < 8 then .inr (s.1.2.2.1 8, (asS s.1 x y, s.2.1, keepP s.1 s.2.2.1, s.2.2.2)) else .inl 2) else .inl 1
theorem lsZ_B (hs : stV h c g t p M) : -1 ≤ lsZ g t ∧ lsZ g t < 2000000 := by
  obtain ⟨-, -, ⟨⟨u, hJ, q0, q1⟩, -⟩, -⟩ := hs
  have h8 := hJ.2.1
  unfold lsZ
  split
  · have := (hJ.2.2.1 (g 8 - 1).toNat (by omega)).1
    omega
  · omega
theorem apJ {u : Int} (hJ : sgJ u t p g) (h8 : g 8 < 8) (hx : lsZ g t < x ∧ 0 ≤ x ∧ x ≤ 1999999) (hy : 0 ≤ y ∧ y ≤ 9999) (hu : u ≤ x) : sgJ u (apT g x t) (apT g y p) (apG g) := by
  obtain ⟨hI, b, c, d⟩ := hJ
  have e8 : apG g 8 = g 8 + 1 := rfl
  have e9 : apG g 9 = g 9 := rfl
  have lo : ∀ i : Nat, (i : Int) < g 8 → t i < x := fun i hi => by
    have hl : lsZ g t = t (g 8 - 1).toNat := if_pos (by omega)
    have := (c (g 8 - 1).toNat (by omega)).2.2
    by_cases z : i = (g 8 - 1).toNat
    · rw [z]; omega
    · have := this i (by omega)
      omega
  refine ⟨hI, ⟨by rw [e9]; exact b.1, by rw [e9, e8]; omega, by rw [e8]; omega⟩, fun i hi => ?_, fun i h1 h2 => ?_⟩
  · rw [e8] at hi
    by_cases z : (i : Int) = g 8
    · refine ⟨?_, ?_, fun j hj => ?_⟩
      · unfold apT
        rw [if_pos z]
        omega
      · unfold apT
        rw [if_pos z]
        exact hy
      · unfold apT
        rw [if_pos z, if_neg (by omega)]
        exact lo j (by omega)
    · obtain ⟨c1, c2, c3⟩ := c i (by omega)
      refine ⟨?_, ?_, fun j hj => ?_⟩
      · unfold apT
        rw [if_neg z]
        exact c1
      · unfold apT
        rw [if_neg z]
        exact c2
      · unfold apT
        rw [if_neg z, if_neg (by omega)]
        exact c3 j hj
  · rw [e8] at h2
    rw [e9] at h1
    unfold apT
    by_cases z : (i : Int) = g 8
    · rw [if_pos z]; exact hu
    · rw [if_neg z]; exact d i h1 (by omega)
theorem asS_V (hs : sV now) (h8 : now.2.2.1 8 < 8) (hx : maxZ (now.1 0) (lsZ now.2.2.1 now.2.2.2.1) + 1 ≤ x ∧ x ≤ 1999999) (hy : 0 ≤ y ∧ y ≤ 9999) : sV (asS now x y) := by
  obtain ⟨hh, hc, ⟨-, g6, g7⟩, ⟨u', hJ', q0', q1'⟩, hT, hM⟩ := hs
  have h0 := hh.1
  have hm : now.1 0 ≤ maxZ (now.1 0) (lsZ now.2.2.1 now.2.2.2.1) ∧ lsZ now.2.2.1 now.2.2.2.1 ≤ maxZ (now.1 0) (lsZ now.2.2.1 now.2.2.2.1) := by
    unfold maxZ
    split <;> omega
  have J := apJ (x := x) (y := y) hJ' h8 (by omega) hy (by omega)
  exact ⟨hh, hc, ⟨⟨u', J, q0', by omega⟩, g6, g7⟩, ⟨u', J, q0', q1'⟩, hT, hM⟩
theorem sg_last (hW : sgW S v b t p g) (h8 : 0 ≤ g 8 ∧ g 8 ≤ 8) : F_sg_lastTime b S v = some (J (lsZ g t)) := by
  obtain ⟨⟨k0, k1, k2, r10, r11⟩, hg, hi⟩ := id hW
  have e8 : rw v b 8 = J (g 8) := hg 8 (by decide)
  unfold F_sg_lastTime lsZ
  rw [grd_true _ k0, gi_rw, e8]
  by_cases z : 0 < g 8
  · have tn : (J (g 8 - 1)).toInt = ((g 8 - 1).toNat : Nat) := by rw [J_toInt (by omega) (by omega)]; omega
    rw [if_pos ((J_lt (by decide) (by omega)).mpr z), if_pos z, r10, ← J_sub]
    simp only [Option.bind_some]
    rw [grd_true _ k1, grd_true _ (vin_of k1 tn (by omega)), clampT tn, gi_rw, (hi (g 8 - 1).toNat (by omega)).1]
  · rw [if_neg (fun w => z ((J_lt (by decide) (by omega)).mp w)), if_neg z]
theorem sg_append (hW : sgW S v b t p g) (h8 : 0 ≤ g 8 ∧ g 8 < 8) : ∃ v', F_sg_append b (J x) (J y) S v = some v' ∧ sgW S v' b (apT g x t) (apT g y p) (apG g) ∧ fri b 3 v v' ∧ rw v' b 8 = J (g 8 + 1) := by
  obtain ⟨⟨k0, k1, k2, r10, r11⟩, hg, hi⟩ := id hW
  have e8 : rw v b 8 = J (g 8) := hg 8 (by decide)
  have tn : (J (g 8)).toInt = ((g 8).toNat : Nat) := by rw [J_toInt (by omega) (by omega)]; omega
  have n1 : b ≠ b + 1 := by omega
  have n2 : b ≠ b + 2 := by omega
  have n3 : b + 2 ≠ b + 1 := by omega
  have n4 : b + 1 ≠ b := by omega
  have n5 : b + 2 ≠ b := by omega
  have n6 : b + 1 ≠ b + 2 := by omega
  obtain ⟨f1, hf1⟩ : ∃ f1, f1 = up (rw v (b + 1)) (g 8).toNat (J x) := ⟨_, rfl⟩
  obtain ⟨f2, hf2⟩ : ∃ f2, f2 = up (rw v (b + 2)) (g 8).toNat (J y) := ⟨_, rfl⟩
  refine ⟨wr (wr (wr v (b + 1) f1) (b + 2) f2) b (up (rw v b) 8 (J (g 8 + 1))), ?_, ⟨⟨k0, k1, k2, r10, r11⟩, ?_, fun i hi' => ?_⟩, ?_, ?_⟩
  · unfold F_sg_append
    rw [grd_true _ k0, gi_rw, e8, if_pos ((J_lt (by omega) (by decide)).mpr h8.2), r10]
    simp only [Option.bind_some]
    rw [grd_true _ k1, grd_true _ (vin_of k1 tn (by omega)), clampT tn, r11]
    simp only [lt_def, si_wr, Option.bind_some, gi_x, rw_wr_ne n1, e8]
    rw [grd_true _ k2, grd_true _ (vin_of k2 tn (by omega)), clampT tn, rw_wr_ne n3, ← hf1, ← hf2]
    simp only [rw_wr_ne n2, rw_wr_ne n1, e8]
    rw [← J_add]
  · rw [rw_wr]
    exact ag_up hg
  · rw [rw_wr_ne n4, rw_wr_ne n6, rw_wr, rw_wr_ne n5, rw_wr, hf1, hf2]
    have hi8 : (i : Int) < g 8 + 1 := hi'
    unfold apT
    by_cases z : (i : Int) = g 8
    · have ei : i = (g 8).toNat := by omega
      rw [if_pos z, if_pos z, ei, up_same, up_same]
      exact ⟨rfl, rfl⟩
    · rw [if_neg z, if_neg z, up_ne (by omega), up_ne (by omega)]
      exact hi i (by omega)
  · exact fri_tr (fri_tr (fri_wr (by omega)) (fri_wr (by omega))) (fri_wr (by omega))
  · rw [rw_wr, up_same]
theorem gc_addSegment (hN : 100 ≤ N) (hw : wfS S) (hR : cR S v a now sv ps re ca ch q) (hq : q ≤ 1000) (hx : -2147483648 ≤ x ∧ x < 2147483648) (hy : -2147483648 ≤ y ∧ y < 2147483648) : UC (F_gc_addSegment N a (J x) (J y) S v) f10 (asO (now, sv, ps, re, ca, ch) x y) a (q + 1) S v := by
  obtain ⟨h, c, g, t, p, M⟩ := now
  obtain ⟨k0, g5, n0, r6, n1, r7, n2, hh, hc, hg⟩ := cR_now hR
  have hs := cR_V hR
  have h8 := stV_8 hs
  have h0 := hs.1.1
  have lB := lsZ_B hs
  have mB : maxZ (h 0) (lsZ g t) = h 0 ∨ maxZ (h 0) (lsZ g t) = lsZ g t := maxZ_B
  unfold F_gc_addSegment
  rw [grd_true _ k0, g5]
  simp only [Option.bind_some]
  rw [grd_true _ n0, r7]
  simp only [Option.bind_some]
  rw [grd_true _ n2, sg_last (cR_W hR) (by omega), gi_rw, hh 0 (by decide)]
  simp only [Option.bind_some]
  rw [ma_maxJ (by omega) (by omega)]
  simp only [Option.bind_some]
  rw [← J_add, gc_within hx (by omega) (by decide)]
  by_cases z : maxZ (h 0) (lsZ g t) + 1 ≤ x ∧ x ≤ 1999999
  · rw [if_pos z, bx_r, gc_within hy (by decide) (by decide)]
    by_cases z2 : 0 ≤ y ∧ y ≤ 9999
    · rw [if_pos z2, bx_r, gi_rw, hg 8 (by decide)]
      by_cases z3 : g 8 < 8
      · have eo : asO ((h, c, g, t, p, M), sv, ps, re, ca, ch) x y = .inr (g 8, (asS (h, c, g, t, p, M) x y, sv, keepP (h, c, g, t, p, M) ps, re, ca, ch)) := (if_pos ⟨z, z2⟩).trans (if_pos z3)
        obtain ⟨S1, v1, e1, w1, R1, G1⟩ := gc_keep hN hw hR hq
        obtain ⟨k0', g5', n0', r6', n1', r7', n2', hh', hc', hg'⟩ := cR_now R1
        obtain ⟨⟨l, hh1, hc1, hW1⟩, hm1⟩ := R1.2.1.1
        obtain ⟨v2, f1, f2, f3, f4⟩ := sg_append (x := x) (y := y) hW1 (show 0 ≤ g 8 ∧ g 8 < 8 by omega)
        have F1 : fri (a + 11) 6 v1 v2 := fri_mono f3 (by omega) (by omega)
        have N1 := msR_fri hm1 l F1
        have M1 : stM S1 v2 (a + 11) h c (apG g) (apT g x t) (apT g y p) := ⟨l, by rw [f3.2 _ (by omega)]; exact hh1, by rw [f3.2 _ (by omega)]; exact hc1, f2⟩
        obtain ⟨w2, R2⟩ := cR_put (now' := asS (h, c, g, t, p, M) x y) R1 w1 (exi_fri F1) ⟨M1, N1⟩ (asS_V R1.2.1.2 z3 z z2)
        rw [if_pos ((J_lt (by omega) (by decide)).mpr z3), e1, eo]
        simp only [Option.bind_some]
        rw [g5']
        simp only [Option.bind_some]
        rw [grd_true _ n0', r7']
        simp only [Option.bind_some]
        rw [grd_true _ n2', f1]
        simp only [Option.bind_some, gi_x]
        rw [f4, ← J_sub, show g 8 + 1 - 1 = g 8 by omega]
        exact ⟨S1, v2, rfl, w2, R2, exg_0 (exg_tr G1 (exg_exi (exi_fri F1) (by omega) (Nat.le_refl _) (Nat.le_refl _)))⟩
      · have eo : asO ((h, c, g, t, p, M), sv, ps, re, ca, ch) x y = .inl 2 := (if_pos ⟨z, z2⟩).trans (if_neg z3)
        rw [if_neg (fun w => z3 ((J_lt (by omega) (by decide)).mp w)), eo]
        rfl
    · have eo : asO ((h, c, g, t, p, M), sv, ps, re, ca, ch) x y = .inl 1 := if_neg (fun w => z2 w.2)
      rw [if_neg z2, bx_l, eo]
      rfl
  · have eo : asO ((h, c, g, t, p, M), sv, ps, re, ca, ch) x y = .inl 1 := if_neg (fun w => z w.1)
    rw [if_neg z, bx_l, eo]
    rfl
-- the model's
theorem gm_last (hl : mdL S m) (hR : rowM (rw v (m + 1)) h c g t p M) (h8 : 0 ≤ g 8 ∧ g 8 ≤ 8) : F_gm_greatestTime m S v = some (J (lsZ g t)) := by
  have r19 : rw v (m + 1) 19 = J (g 8) := hR.1 19 (by decide)
  unfold F_gm_greatestTime lsZ
  rw [grd_true _ hl.1, hl.2.1]
  simp only [Option.bind_some]
  rw [grd_true _ hl.2.2.1, gi_rw, r19]
  by_cases z : 0 < g 8
  · have tn : (J (g 8 - 1)).toInt = ((g 8 - 1).toNat : Nat) := by rw [J_toInt (by omega) (by omega)]; omega
    rw [if_neg (fun w => by have := (J_eq (by omega) (by decide)).mp w; omega), if_pos z, ← J_sub, gm_segTime hl tn (by omega), rowM_t hR (by omega)]
    rfl
  · rw [if_pos (by rw [show g 8 = 0 by omega]), if_neg z]
def apR (R : Nat → Int32) (n : Nat) (x y : Int) : Nat → Int32 := up (up (up R (23 + 2 * n) (J x)) (24 + 2 * n) (J y)) 19 (J ((n : Int) + 1))
theorem gm_puts (hl : mdL S m) {n : Nat} (hn : n < 8) (r19 : rw v (m + 1) 19 = J (n : Int)) : F_gm_puts m (J x) (J y) S v = some (wr v (m + 1) (apR (rw v (m + 1)) n x y)) := by
  have t1 : (J 23 + J 2 * J (n : Int)).toInt = ((23 + 2 * n : Nat) : Int) := by
    rw [← J_mul, ← J_add, J_toInt (by omega) (by omega)]
    omega
  have t2 : (J 23 + J 2 * J (n : Int) + J 1).toInt = ((24 + 2 * n : Nat) : Int) := by
    rw [← J_mul, ← J_add, ← J_add, J_toInt (by omega) (by omega)]
    omega
  have e1 : up (rw v (m + 1)) (23 + 2 * n) (J x) 19 = J (n : Int) := by rw [up_ne (by omega), r19]
  have e2 : up (up (rw v (m + 1)) (23 + 2 * n) (J x)) (24 + 2 * n) (J y) 19 = J (n : Int) := by rw [up_ne (by omega), e1]
  unfold F_gm_puts
  rw [grd_true _ hl.1, hl.2.1]
  simp only [Option.bind_some]
  rw [grd_true _ hl.2.2.1, gi_rw, r19, grd_true _ (vin_of hl.2.2.1 t1 (by omega)), clampT t1]
  simp only [lt_def, si_wr, gi_x, rw_wr, wr_wr, e1]
  rw [grd_true _ (vin_of hl.2.2.1 t2 (by omega)), clampT t2, e2, ← J_add]
  rfl
theorem apR_row (h1 : rowM (rw v (m + 1)) h c g t p M) (h8 : 0 ≤ g 8 ∧ g 8 < 8) : rowM (apR (rw v (m + 1)) (g 8).toNat x y) h c (apG g) (apT g x t) (apT g y p) M := by
  have n8 : (((g 8).toNat : Nat) : Int) = g 8 := by omega
  refine ⟨fun k k23 => ?_, fun j hj => ?_, fun j hj w hw => ?_⟩
  · by_cases k19 : k = 19
    · subst k19
      unfold apR
      rw [up_same, n8]
      rfl
    · unfold apR
      rw [up_ne k19, up_ne (by omega), up_ne (by omega), h1.1 k k23]
      match k, k23, k19 with
      | 0, _, _ => rfl
      | 1, _, _ => rfl
      | 2, _, _ => rfl
      | 3, _, _ => rfl
      | 4, _, _ => rfl
      | 5, _, _ => rfl
      | 6, _, _ => rfl
      | 7, _, _ => rfl
      | 8, _, _ => rfl
      | 9, _, _ => rfl
      | 10, _, _ => rfl
      | 11, _, _ => rfl
      | 12, _, _ => rfl
      | 13, _, _ => rfl
      | 14, _, _ => rfl
      | 15, _, _ => rfl
      | 16, _, _ => rfl
      | 17, _, _ => rfl
      | 18, _, _ => rfl
      | 19, _, h => exact absurd rfl h
      | 20, _, _ => rfl
      | 21, _, _ => rfl
      | 22, _, _ => rfl
      | k + 23, h, _ => exact absurd h (by omega)
  · have hj' : (j : Int) < g 8 + 1 := hj
    unfold apR apT
    by_cases z : (j : Int) = g 8
    · have ej : j = (g 8).toNat := by omega
      rw [if_pos z, if_pos z, ej]
      refine ⟨?_, ?_⟩
      · rw [up_ne (by omega), up_ne (by omega), up_same]
      · rw [up_ne (by omega), up_same]
    · rw [if_neg z, if_neg z]
      obtain ⟨y1, y2⟩ := h1.2.1 j (by omega)
      refine ⟨?_, ?_⟩
      · rw [up_ne (by omega), up_ne (by omega), up_ne (by omega)]; exact y1
      · rw [up_ne (by omega), up_ne (by omega), up_ne (by omega)]; exact y2
  · unfold apR
    rw [up_ne (by omega), up_ne (by omega), up_ne (by omega)]
    exact h1.2.2 j hj w hw
theorem gm_addSegment (hN : 100000 ≤ N) (hR : dR S v m now sv ps re ca ch) (hs : sV now) (hp : psV ps) (hx : -2147483648 ≤ x ∧ x < 2147483648) (hy : -2147483648 ≤ y ∧ y < 2147483648) : UM (F_gm_addSegment N m (J x) (J y) S v) (now, sv, ps, re, ca, ch) (asO (now, sv, ps, re, ca, ch) x y) S v m := by
  obtain ⟨h, c, g, t, p, M⟩ := now
  have hl := hR.1
  have h1 : rowM (rw v (m + 1)) h c g t p M := hR.2.1
  have hs' : stV h c g t p M := hs
  have h8 := stV_8 hs'
  have h0 := hs'.1.1
  have lB := lsZ_B hs'
  have mB : maxZ (h 0) (lsZ g t) = h 0 ∨ maxZ (h 0) (lsZ g t) = lsZ g t := maxZ_B
  have n1 : ¬ J 1 = J 0 := by decide
  have r19 : rw v (m + 1) 19 = J (g 8) := h1.1 19 (by decide)
  have r0 : rw v (m + 1) 0 = J (h 0) := h1.1 0 (by decide)
  have h1' : rowM (rw (th v m 0) (m + 1)) h c g t p M := by rw [rw_th (by omega)]; exact h1
  have k57 : asO ((h, c, g, t, p, M), sv, ps, re, ca, ch) x y = .inl 1 → UM (K_gm_addSegment_57 N S (th v m 0) m (J x) (J y) m (J 1)) ((h, c, g, t, p, M), sv, ps, re, ca, ch) (asO ((h, c, g, t, p, M), sv, ps, re, ca, ch) x y) S v m := fun eo => by
    unfold K_gm_addSegment_57
    rw [grd_true _ hl.1, gm_fails1 hl, eo]
    simp only [Option.bind_some, n1, if_false]
    rw [th_th]
    exact ⟨_, rfl, dR_th hR hs, mch_th, th10⟩
  unfold F_gm_addSegment
  rw [grd_true _ hl.1]
  simp only [lt_def, si_th]
  rw [hl.2.1]
  simp only [Option.bind_some]
  rw [grd_true _ hl.2.2.1, gm_last hl h1' (by omega), gi_rw, rw_th (show m + 1 ≠ m by omega), r0]
  simp only [Option.bind_some]
  rw [ma_maxJ (by omega) (by omega)]
  simp only [Option.bind_some]
  rw [← J_add, gm_inRange hx (by omega) (by decide)]
  simp only [Option.bind_some]
  by_cases z : maxZ (h 0) (lsZ g t) + 1 ≤ x ∧ x ≤ 1999999
  · rw [if_pos z, if_neg n1, gm_inRange hy (by decide) (by decide)]
    simp only [Option.bind_some]
    by_cases z2 : 0 ≤ y ∧ y ≤ 9999
    · rw [if_pos z2, if_neg n1]
      unfold K_gm_addSegment_57
      rw [grd_true _ hl.1, gm_fails0]
      simp only [Option.bind_some, if_true]
      rw [grd_true _ hl.1, hl.2.1]
      simp only [Option.bind_some]
      rw [grd_true _ hl.2.2.1, gi_rw, rw_th (show m + 1 ≠ m by omega), r19]
      unfold K_gm_addSegment_82
      by_cases z3 : g 8 < 8
      · have n8 : (((g 8).toNat : Nat) : Int) = g 8 := by omega
        have eo : asO ((h, c, g, t, p, M), sv, ps, re, ca, ch) x y = .inr (g 8, (asS (h, c, g, t, p, M) x y, sv, keepP (h, c, g, t, p, M) ps, re, ca, ch)) := (if_pos ⟨z, z2⟩).trans (if_pos z3)
        have hP : rwM (apR (rw v (m + 1)) (g 8).toNat x y) (asS (h, c, g, t, p, M) x y) := apR_row h1 (by omega)
        obtain ⟨v1, e1, e2, e3, e4, e5⟩ := gm_keepRow (x := 0) (now' := asS (h, c, g, t, p, M) x y) hN hR hs hp hP
        rw [if_neg (fun w => by have := (J_eq (by omega) (by decide)).mp w; omega), eo, grd_true _ hl.1, gm_fails0]
        simp only [Option.bind_some, if_true]
        rw [grd_true _ hl.1, e1]
        simp only [Option.bind_some]
        rw [gm_puts hl (n := (g 8).toNat) (by omega) (by rw [e2, r19, n8]), hl.2.1, e2]
        simp only [Option.bind_some]
        rw [grd_true _ hl.2.2.1]
        simp only [gi_x, rw_wr]
        rw [show apR (rw v (m + 1)) (g 8).toNat x y 19 = J (g 8 + 1) by unfold apR; rw [up_same, n8], ← J_sub, show g 8 + 1 - 1 = g 8 by omega]
        exact ⟨_, rfl, e3, e4, e5⟩
      · have eo : asO ((h, c, g, t, p, M), sv, ps, re, ca, ch) x y = .inl 2 := (if_pos ⟨z, z2⟩).trans (if_neg z3)
        rw [if_pos (by rw [show g 8 = 8 by omega]), eo, grd_true _ hl.1, gm_fails1 hl]
        simp only [Option.bind_some, n1, if_false]
        rw [th_th]
        exact ⟨_, rfl, dR_th hR hs, mch_th, th10⟩
    · rw [if_neg z2, if_pos rfl]
      exact k57 (if_neg (fun w => z2 w.2))
  · rw [if_neg z, if_pos rfl]
    exact k57 (if_neg (fun w => z w.1))
end ADDSEG
