/-! What is printed: settings and measurements, both sides. -/
section TEXTS
variable {S S' : shp} {v w v' u : vl} {a b m N n q r len r' len' : Nat} {h c g t p : Nat → Int} {M : Nat → Nat → Int} {s now : sta} {sv : Option sta} {ps : List sta} {re ca ch : Int} {X : Nat × (Nat → Int)}
def cP (c : Int) (X : Nat × (Nat → Int)) : Nat × (Nat → Int) := (X.1 + 1, put1 X.2 X.1 c)
def nP (x : Int) (X : Nat × (Nat → Int)) : Nat × (Nat → Int) := (X.1 + sgL' x, sgT X.2 X.1 x)
/-- letters -/
def aT (X : Nat × (Nat → Int)) : Prop := ∀ i, i < X.1 → 0 ≤ X.2 i ∧ X.2 i ≤ 127
theorem aT_c {c : Int} (hX : aT X) (hc : 0 ≤ c ∧ c ≤ 127) : aT (cP c X) := by
  intro i hi
  have hi' : i < X.1 + 1 := hi
  show 0 ≤ put1 X.2 X.1 c i ∧ put1 X.2 X.1 c i ≤ 127
  unfold put1
  by_cases z : i = X.1
  · rw [if_pos z]; exact hc
  · rw [if_neg z]; exact hX i (by omega)
theorem aT_nu {l lim y d : Nat} {O : Nat → Int} (hX : aT (l, O)) : aT (l + d, nuT O l lim y d) := by
  intro i hi
  have hi' : i < l + d := hi
  show 0 ≤ nuT O l lim y d i ∧ nuT O l lim y d i ≤ 127
  unfold nuT
  have := dg_B (y := y) (j := l + d - 1 - i)
  split
  · split
    · omega
    · omega
  · exact hX i (by show i < l; omega)
theorem aT_n {x : Int} (hX : aT X) : aT (nP x X) := by
  unfold nP sgT sgL'
  by_cases z : x < 0
  · rw [if_pos z, if_pos z]
    have := aT_nu (lim := 10) (y := x.natAbs) (d := nd x.natAbs) (l := X.1 + 1) (O := put1 X.2 X.1 45) (aT_c (c := 45) hX (by decide))
    rw [show X.1 + (1 + nd x.natAbs) = X.1 + 1 + nd x.natAbs by omega]
    exact this
  · rw [if_neg z, if_neg z, Nat.zero_add]
    exact aT_nu hX
theorem isD_le {y d e : Nat} (h : isD y d) (hy : y < pt e) (he : 1 ≤ e) : d ≤ e := by
  by_cases z : d ≤ e
  · exact z
  · obtain ⟨h1, h2, h3⟩ := h
    have := pt_mono (show e ≤ d - 1 by omega)
    rcases h3 with h3 | h3 <;> omega
theorem sgL_B {x : Int} (hx : -2147483648 < x ∧ x < 2147483648) : 1 ≤ sgL' x ∧ sgL' x ≤ 11 := by
  obtain ⟨nB, n10⟩ := nd_B (y := x.natAbs) (by omega)
  have := nB.2.1
  unfold sgL'
  split <;> omega
theorem sgL_e {x : Int} {e : Nat} (hx : 0 ≤ x ∧ x < 2147483648) (he : x.natAbs < pt e) (h1 : 1 ≤ e) : sgL' x ≤ e := by
  obtain ⟨nB, n10⟩ := nd_B (y := x.natAbs) (by omega)
  have := isD_le nB he h1
  unfold sgL'
  rw [if_neg (by omega)]
  omega
/-- a letter, a number more, in the builder -/
theorem sb_c {c : Int} (hw : wfS S) (hO : OC S v b X.1 X.2 r len) (hc : 0 ≤ c ∧ c ≤ 127) (hl : X.1 + 1 ≤ 142) :
    ∃ S' v' r' len', F_sb_append b (J c) S v = some (some b, S', v') ∧ OC S' v' b (cP c X).1 (cP c X).2 r' len' ∧ exP b r len S v S' v' r' len' := by
  have := sb_char (c := c.toNat) hw hO (by omega) hl
  rw [show ((c.toNat : Nat) : Int) = c by omega] at this
  exact this
theorem gm_c {c : Int} (hl : mdL S m) (hO : OM v m X.1 X.2) (h3 : X.1 < 300) : ∃ v', F_gm_write m (J c) S v = some v' ∧ OM v' m (cP c X).1 (cP c X).2 ∧ f07 m v v' := gm_write hl hO h3
theorem gm_n {x : Int} (hN : 100 ≤ N) (hl : mdL S m) (hx : -2147483648 < x ∧ x < 2147483648) (hO : OM v m X.1 X.2) (h300 : X.1 + 11 ≤ 300) : ∃ v', F_gm_writeNumber N m (J x) S v = some v' ∧ OM v' m (nP x X).1 (nP x X).2 ∧ f07 m v v' := gm_number hN hl hx hO h300
-- settings
def tSet (V : Nat → Int) : Nat → Nat × (Nat → Int)
  | 0 => (0, fun _ => 0)
  | k + 1 => nP (V k) (if 0 < k then cP 44 (tSet V k) else tSet V k)
theorem tSet_s {V : Nat → Int} {k : Nat} : tSet V (k + 1) = nP (V k) (if 0 < k then cP 44 (tSet V k) else tSet V k) := rfl
def bV (V : Nat → Int) : Prop := ∀ k, k < 7 → -2147483648 < V k ∧ V k < 2147483648
theorem tSet_B {V : Nat → Int} (hV : bV V) : ∀ k, k ≤ 7 → (tSet V k).1 ≤ 12 * k ∧ aT (tSet V k)
  | 0, _ => ⟨Nat.le_refl _, fun i hi => absurd hi (Nat.not_lt_zero _)⟩
  | k + 1, hk => by
    obtain ⟨h1, h2⟩ := tSet_B hV k (by omega)
    have h3 := sgL_B (hV k (by omega))
    rw [tSet_s]
    by_cases z : 0 < k
    · rw [if_pos z]
      refine ⟨?_, aT_n (aT_c h2 (by decide))⟩
      show (tSet V k).1 + 1 + sgL' (V k) ≤ 12 * (k + 1)
      omega
    · rw [if_neg z]
      refine ⟨?_, aT_n h2⟩
      show (tSet V k).1 + sgL' (V k) ≤ 12 * (k + 1)
      omega
def vSet (h c g : Nat → Int) (k : Nat) : Int := match k with
  | 0 => c 0
  | 1 => c 1
  | 2 => c 2
  | 3 => g 4
  | 4 => h 1
  | 5 => h 2
  | _ => h 3
theorem vSet_O {k : Nat} (hk : k < 7) : setO h c g (k : Int) = .inr (vSet h c g k) := by
  match k, hk with
  | 0, _ => rfl
  | 1, _ => rfl
  | 2, _ => rfl
  | 3, _ => rfl
  | 4, _ => rfl
  | 5, _ => rfl
  | 6, _ => rfl
  | k + 7, h => exact absurd h (by omega)
theorem vSet_B (hV : stV h c g t p M) : bV (vSet h c g) := by
  have h1 := hV.1
  have c1 := hV.2.1.1
  have h4 : 1 ≤ g 4 ∧ g 4 ≤ 16 := by
    obtain ⟨-, -, ⟨⟨u, hJ, q0, q1⟩, -⟩, -⟩ := hV
    exact hJ.1.2.2.2.2.1
  obtain ⟨v0, v1, v2, v3, v5⟩ := h1
  obtain ⟨y0, y1, y2, -⟩ := c1
  intro k hk
  match k, hk with
  | 0, _ => show _ < c 0 ∧ c 0 < _; omega
  | 1, _ => show _ < c 1 ∧ c 1 < _; omega
  | 2, _ => show _ < c 2 ∧ c 2 < _; omega
  | 3, _ => show _ < g 4 ∧ g 4 < _; omega
  | 4, _ => show _ < h 1 ∧ h 1 < _; omega
  | 5, _ => show _ < h 2 ∧ h 2 < _; omega
  | 6, _ => show _ < h 3 ∧ h 3 < _; omega
  | k + 7, h => exact absurd h (by omega)
theorem dtT_9 (hT : dtT S v a) (hw : wfS S) (ham : a + 84 ≤ m) (ho : rOut S a m r len) (hx : exP (a + 9) r len S v S' v' r' len') : dtT S' v' a := dtT_exP hT hw ham ho hx
theorem gc_setL (hN : 100 ≤ N) (ham : a + 84 ≤ m) : ∀ (d k F : Nat) (S : shp) (v : vl) (r len : Nat), k + d = 7 → d < F → wfS S → mdL S m → cR S v a (h, c, g, t, p, M) sv ps re ca ch q → OC S v (a + 9) (tSet (vSet h c g) k).1 (tSet (vSet h c g) k).2 r len → rOut S a m r len → dtT S v a →
    ∃ S' v' r' len', K_gc_printSettings_10 N F S v a (J (k : Int)) = some (J (((tSet (vSet h c g) 7).1 : Nat) : Int), S', v') ∧ OC S' v' (a + 9) (tSet (vSet h c g) 7).1 (tSet (vSet h c g) 7).2 r' len' ∧ exP (a + 9) r len S v S' v' r' len' ∧ rOut S' a m r' len'
  | _, _, 0, _, _, _, _, _, h, _, _, _, _, _, _ => absurd h (Nat.not_lt_zero _)
  | 0, k, F + 1, S, v, r, len, hk, _, hw, hm, hR, hO, ho, hT => by
    have k7 : k = 7 := by omega
    subst k7
    have hL := hR.1
    refine ⟨S, v, r, len, ?_, hO, exP_refl, ho⟩
    show Y_gc_printSettings_10 N (K_gc_printSettings_10 N F) S v a (J ((7 : Nat) : Int)) = _
    unfold Y_gc_printSettings_10
    rw [if_pos (by decide), grd_true _ hL.1.1, hL.1.2.2.1]
    simp only [Option.bind_some]
    rw [grd_true _ hL.2.2.1, sb_len hO]
    rfl
  | d + 1, k, F + 1, S, v, r, len, hk, hF, hw, hm, hR, hO, ho, hT => by
    have hV := cR_V hR
    have bb := vSet_B hV
    have tB := tSet_B bb k (by omega)
    have hL := hR.1
    have cast := vSet_O (h := h) (c := c) (g := g) (k := k) (by omega)
    -- the number
    have num : ∀ (S1 : shp) (v1 : vl) (r1 len1 : Nat) (X : Nat × (Nat → Int)), X = (if 0 < k then cP 44 (tSet (vSet h c g) k) else tSet (vSet h c g) k) → wfS S1 → mdL S1 m → cR S1 v1 a (h, c, g, t, p, M) sv ps re ca ch q → OC S1 v1 (a + 9) X.1 X.2 r1 len1 → rOut S1 a m r1 len1 → dtT S1 v1 a →
        ∃ S' v' r' len', ((gr S1 a 1).bind fun r22 => bx (F_gc_setting a (J (k : Int)) S1 v1) (fun _ => none) fun x24 => grd (kin S1 r22 = some (0, 7)) <| (F_sb_append2 N r22 x24 S1 v1).bind fun (q26, S27, w28) => oc2 q26 none fun r30 => K_gc_printSettings_10 N F S27 w28 a (J (k : Int) + (J 1))) = some (J (((tSet (vSet h c g) 7).1 : Nat) : Int), S', v') ∧ OC S' v' (a + 9) (tSet (vSet h c g) 7).1 (tSet (vSet h c g) 7).2 r' len' ∧ exP (a + 9) r1 len1 S1 v1 S' v' r' len' ∧ rOut S' a m r' len' := by
      intro S1 v1 r1 len1 X hX w1 m1 R1 O1 o1 T1
      have hL1 := R1.1
      have X12 : X.1 ≤ 12 * k + 1 := by
        rw [hX]
        split
        · show (tSet (vSet h c g) k).1 + 1 ≤ _
          omega
        · omega
      have o2 := o1.2
      obtain ⟨S2, v2, r2, len2, a1, a2, a3⟩ := sb_num (N := N) (x := vSet h c g k) hN w1 T1 O1 (bb k (by omega)) (by omega) (by omega) (by omega)
      have w2 := a3.2.2.2.2.2.2.2.2.2.2 w1
      have e2 : (X.1 + sgL' (vSet h c g k), sgT X.2 X.1 (vSet h c g k)) = tSet (vSet h c g) (k + 1) := by rw [tSet_s, ← hX]; rfl
      have O2 : OC S2 v2 (a + 9) (tSet (vSet h c g) (k + 1)).1 (tSet (vSet h c g) (k + 1)).2 r2 len2 := by
        rw [← e2]
        exact a2
      obtain ⟨S3, v3, r3, len3, b1, b2, b3, b4⟩ := gc_setL hN ham d (k + 1) F S2 v2 r2 len2 (by omega) (by omega) w2 (mdL_exP m1 w1 ham a3) (cR_exP R1 w1 ham o1 a3) O2 (rOut_exP w1 m1 o1 a3 O2) (dtT_exP T1 w1 ham o1 a3)
      refine ⟨S3, v3, r3, len3, ?_, b2, exP_tr a3 b3, b4⟩
      rw [hL1.1.2.2.1]
      simp only [Option.bind_some]
      rw [gc_setting R1 (by omega), cast]
      show bx (some (.inr (J (vSet h c g k)))) _ _ = _
      rw [bx_r, grd_true _ hL1.2.2.1, a1]
      simp only [Option.bind_some, oc2]
      rw [J_s]
      exact b1
    show ∃ S' v' r' len', Y_gc_printSettings_10 N (K_gc_printSettings_10 N F) S v a (J (k : Int)) = some (J (((tSet (vSet h c g) 7).1 : Nat) : Int), S', v') ∧ _
    unfold Y_gc_printSettings_10
    rw [if_neg (fun w => by have := (J_lt (by decide) (by omega)).mp w; omega)]
    by_cases z : 0 < k
    · obtain ⟨S1, v1, r1, len1, a1, a2, a3⟩ := sb_c (c := 44) hw hO (by decide) (by omega)
      have w1 := a3.2.2.2.2.2.2.2.2.2.2 hw
      obtain ⟨S2, v2, r2, len2, b1, b2, b3, b4⟩ := num S1 v1 r1 len1 (cP 44 (tSet (vSet h c g) k)) (by rw [if_pos z]) w1 (mdL_exP hm hw ham a3) (cR_exP hR hw ham ho a3) a2 (rOut_exP hw hm ho a3 a2) (dtT_exP hT hw ham ho a3)
      refine ⟨S2, v2, r2, len2, ?_, b2, exP_tr a3 b3, b4⟩
      rw [if_pos ((J_lt (by decide) (by omega)).mpr (by omega)), grd_true _ hL.1.1, hL.1.2.2.1]
      simp only [Option.bind_some]
      rw [grd_true _ hL.2.2.1, a1]
      simp only [Option.bind_some, oc2]
      exact b1
    · obtain ⟨S2, v2, r2, len2, b1, b2, b3, b4⟩ := num S v r len (tSet (vSet h c g) k) (by rw [if_neg z]) hw hm hR hO ho hT
      refine ⟨S2, v2, r2, len2, ?_, b2, b3, b4⟩
      rw [if_neg (fun w => z (by have := (J_lt (by decide) (by omega)).mp w; omega)), grd_true _ hL.1.1]
      exact b1
theorem gm_setL {V : Nat → Int} (hN : 100 ≤ N) (hl : mdL S m) (hV : bV V) : ∀ (d k F : Nat) (v : vl), k + d = 7 → d < F → (∀ j, j < 7 → rw v (m + 1) (j + 1) = J (V j)) → OM v m (tSet V k).1 (tSet V k).2 →
    ∃ v', K_gm_printSettings_12 N F S v m (J ((k + 1 : Nat) : Int)) = some (J (((tSet V 7).1 : Nat) : Int), v') ∧ OM v' m (tSet V 7).1 (tSet V 7).2 ∧ f07 m v v'
  | _, _, 0, _, _, h, _, _ => absurd h (Nat.not_lt_zero _)
  | 0, k, F + 1, v, hk, _, hr, hO => by
    have k7 : k = 7 := by omega
    subst k7
    refine ⟨v, ?_, hO, f07_refl⟩
    show Y_gm_printSettings_12 N (K_gm_printSettings_12 N F S) S v m (J ((7 + 1 : Nat) : Int)) = _
    unfold Y_gm_printSettings_12
    rw [if_pos (by decide), grd_true _ hl.1, gi_rw, hO.1]
  | d + 1, k, F + 1, v, hk, hF, hr, hO => by
    have tB := tSet_B hV k (by omega)
    have tk : (J ((k + 1 : Nat) : Int)).toInt = ((k + 1 : Nat) : Int) := J_toInt (by omega) (by omega)
    have num : ∀ (v1 : vl) (X : Nat × (Nat → Int)), X = (if 0 < k then cP 44 (tSet V k) else tSet V k) → (∀ j, j < 7 → rw v1 (m + 1) (j + 1) = J (V j)) → OM v1 m X.1 X.2 → ∃ v', ((gr S m 0).bind fun r6 => grd (kin S r6 = some (1, 199)) <| grd (vp_in (J ((k + 1 : Nat) : Int)) (alen S r6)) <| (F_gm_writeNumber N m (gi v1 r6 (Int32.toNatClampNeg (J ((k + 1 : Nat) : Int)))) S v1).bind fun w10 => K_gm_printSettings_12 N F S w10 m (J ((k + 1 : Nat) : Int) + (J 1))) = some (J (((tSet V 7).1 : Nat) : Int), v') ∧ OM v' m (tSet V 7).1 (tSet V 7).2 ∧ f07 m v1 v' := by
      intro v1 X hX h1 O1
      have X12 : X.1 ≤ 12 * k + 1 := by
        rw [hX]
        split
        · show (tSet V k).1 + 1 ≤ _
          omega
        · omega
      obtain ⟨v2, a1, a2, a3⟩ := gm_n (N := N) (x := V k) hN hl (hV k (by omega)) O1 (by omega)
      have e2 : nP (V k) X = tSet V (k + 1) := by rw [tSet_s, ← hX]
      rw [e2] at a2
      obtain ⟨v3, b1, b2, b3⟩ := gm_setL hN hl hV d (k + 1) F v2 (by omega) (by omega) (fun j hj => by rw [a3.2.1 _ (by omega) (by omega)]; exact h1 j hj) a2
      refine ⟨v3, ?_, b2, f07_tr a3 b3⟩
      rw [hl.2.1]
      simp only [Option.bind_some]
      rw [grd_true _ hl.2.2.1, grd_true _ (vin_of hl.2.2.1 tk (by omega)), clampT tk, gi_rw, h1 k (by omega), a1]
      simp only [Option.bind_some]
      rw [J_s]
      exact b1
    show ∃ v', Y_gm_printSettings_12 N (K_gm_printSettings_12 N F S) S v m (J ((k + 1 : Nat) : Int)) = some (J (((tSet V 7).1 : Nat) : Int), v') ∧ _
    unfold Y_gm_printSettings_12
    rw [if_neg (fun w => by have := (J_lt (by decide) (by omega)).mp w; omega)]
    by_cases z : 0 < k
    · obtain ⟨v1, a1, a2, a3⟩ := gm_c (c := 44) hl hO (by omega)
      obtain ⟨v2, b1, b2, b3⟩ := num v1 (cP 44 (tSet V k)) (by rw [if_pos z]) (fun j hj => by rw [a3.2.1 _ (by omega) (by omega)]; exact hr j hj) a2
      refine ⟨v2, ?_, b2, f07_tr a3 b3⟩
      rw [if_pos ((J_lt (by decide) (by omega)).mpr (by omega)), grd_true _ hl.1, a1]
      simp only [Option.bind_some]
      exact b1
    · obtain ⟨v2, b1, b2, b3⟩ := num v (tSet V k) (by rw [if_neg z]) hr hO
      refine ⟨v2, ?_, b2, b3⟩
      rw [if_neg (fun w => z (by have := (J_lt (by decide) (by omega)).mp w; omega)), grd_true _ hl.1]
      exact b1
/-- the texts of both sides -/
def BO (S : shp) (v : vl) (a m : Nat) : Prop := ∃ (X : Nat × (Nat → Int)) (r len : Nat), OC S v (a + 9) X.1 X.2 r len ∧ rOut S a m r len ∧ OM v m X.1 X.2 ∧ aT X
theorem BO_07 {X : Nat × (Nat → Int)} (hO : OC S v (a + 9) X.1 X.2 r len) (ho : rOut S a m r len) (ham : a + 84 ≤ m) (hf : ∀ y, y ≠ m → y ≠ m + 7 → rw u y = rw v y) (hM : OM u m X.1 X.2) (hA : aT X) : BO S u a m := by
  obtain ⟨k0, ⟨c1, c3⟩, g0, kr, hb, hbt, ht⟩ := hO
  have hr := ho.2
  refine ⟨X, r, len, ⟨k0, ⟨by rw [hf _ (by omega) (by omega)]; exact c1, by rw [hf _ (by omega) (by omega)]; exact c3⟩, g0, kr, hb, by rw [hf _ (by omega) (by omega)]; exact hbt, fun i hi => ?_⟩, ho, hM, hA⟩
  rw [hf _ (by omega) (by omega)]
  exact ht i hi
/-- a print's outcome, both sides -/
def PB (S : shp) (v : vl) (a m : Nat) (cF : Option (Int32 × shp × vl)) (mF : shp → vl → Option (Int32 × vl)) : Prop := ∃ x S' v' r len r' len', cF = some (x, S', v') ∧ rOut S a m r len ∧ exP (a + 9) r len S v S' v' r' len' ∧ len' ≤ len + 126 ∧ ∃ v'', mF S' v' = some (x, v'') ∧ v''.2 = v'.2 ∧ (∀ y, y ≠ m → y ≠ m + 7 → rw v'' y = rw v' y) ∧ (∀ k, k ≠ 10 → k ≠ 29 → rw v'' m k = rw v' m k) ∧ rw v'' m 10 = J 0 ∧ BO S' v'' a m
theorem th29 {x : Int} (hl : mdL S m) : ∃ R, si (si v m 10 (J 0)) m 29 (J x) = wr v m R ∧ R 29 = J x ∧ R 10 = J 0 ∧ ∀ k, k ≠ 10 → k ≠ 29 → R k = rw v m k := by
  refine ⟨up (up (rw v m) 10 (J 0)) 29 (J x), ?_, up_same, by rw [up_ne (by decide), up_same], fun k h1 h2 => by rw [up_ne h2, up_ne h1]⟩
  rw [si_wr, si_wr, rw_wr, wr_wr]
theorem prset_both (hN : 100 ≤ N) (ham : a + 84 ≤ m) (hw : wfS S) (hR : cR S v a (h, c, g, t, p, M) sv ps re ca ch q) (hd : dR S v m (h, c, g, t, p, M) sv ps re ca ch) (hB : BO S v a m) (hT : dtT S v a) :
    PB S v a m (F_gc_printSettings N a S v) (fun S v => F_gm_printSettings N m S v) := by
  obtain ⟨X, r, len, hO, ho, hM, hA⟩ := hB
  have hL := hR.1
  have hl := hd.1
  have hV := cR_V hR
  obtain ⟨v1, a1, a2, a3⟩ := sb_zero hw hO
  have O0 : OC S v1 (a + 9) (tSet (vSet h c g) 0).1 (tSet (vSet h c g) 0).2 r len := by
    obtain ⟨y0, y1, y2, y3, y4, y5, y6⟩ := a2
    exact ⟨y0, y1, y2, y3, y4, y5, fun i hi => absurd hi (Nat.not_lt_zero _)⟩
  obtain ⟨S', v', r', len', b1, b2, b3, b4⟩ := gc_setL (N := N) hN ham 7 0 N S v1 r len rfl (by omega) hw hl (cR_exP hR hw ham ho a3) O0 ho (dtT_exP hT hw ham ho a3)
  have X' := exP_tr a3 b3
  have hl' := mdL_exP hl hw ham X'
  have rr := fun x (hx : m ≤ x ∧ x < m + 8) => mrow_exP hl hw ham ho X' hx
  obtain ⟨R, e1, e29, e10, eo⟩ := th29 (v := v') (x := 0) hl'
  have rows : ∀ j, j < 7 → rw (wr v' m R) (m + 1) (j + 1) = J (vSet h c g j) := by
    intro j hj
    rw [rw_wr_ne (by omega), rr _ (by omega), hd.2.1.1 (j + 1) (by omega)]
    match j, hj with
    | 0, _ => rfl
    | 1, _ => rfl
    | 2, _ => rfl
    | 3, _ => rfl
    | 4, _ => rfl
    | 5, _ => rfl
    | 6, _ => rfl
    | j + 7, h => exact absurd h (by omega)
  obtain ⟨v'', f1, f2, f3⟩ := gm_setL (N := N) hN hl' (vSet_B hV) 7 0 N (wr v' m R) rfl (by omega) rows ⟨by rw [rw_wr]; exact e29, Nat.zero_le _, fun i hi => absurd hi (Nat.not_lt_zero _)⟩
  have tB := tSet_B (vSet_B hV) 7 (Nat.le_refl _)
  refine ⟨J (((tSet (vSet h c g) 7).1 : Nat) : Int), S', v', r, len, r', len', ?_, ho, X', (by have := hO.2.2.2.2.1; have := b2.2.2.2.2.1; omega), v'', ?_, f3.1, fun y y0 y7 => by rw [f3.2.1 y y0 y7, rw_wr_ne y0], fun k k10 k29 => by rw [f3.2.2 k k29, rw_wr]; exact eo k k10 k29, by rw [f3.2.2 10 (by decide), rw_wr]; exact e10, BO_07 b2 b4 ham (fun y y0 y7 => by rw [f3.2.1 y y0 y7, rw_wr_ne y0]) f2 tB.2⟩
  · unfold F_gc_printSettings
    rw [grd_true _ hL.1.1, hL.1.2.2.1]
    simp only [Option.bind_some]
    rw [grd_true _ hL.2.2.1, a1]
    simp only [Option.bind_some]
    exact b1
  · show F_gm_printSettings N m S' v' = _
    unfold F_gm_printSettings
    rw [grd_true _ hl'.1, e1]
    simp only [lt_def]
    exact f1
end TEXTS
