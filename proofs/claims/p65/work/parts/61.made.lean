/-! The class's measurements. -/
section MADE
theorem J_eq {x y : Int} (hx : -2147483648 ≤ x ∧ x < 2147483648) (hy : -2147483648 ≤ y ∧ y < 2147483648) : J x = J y ↔ x = y := J_inj hx hy
def msZ (b T0 T1 n w s k : Int) : Nat → Int := fun j => match j with
  | 0 => b
  | 1 => T0
  | 2 => T1
  | 3 => n
  | 4 => w
  | 5 => s
  | _ => k
/-- numbers of a measurement -/
def mN (z : Nat → Int) (w : Int) : Int := if w = 0 then z 0 else if w = 1 then z 1 else if w = 2 then z 2 else if w = 3 then z 3 else if w = 4 then z 4 else if w = 5 then dgZ (z 3) else if w = 6 then z 5 else z 6
def msV (z : Nat → Int) : Prop := (z 0 = 0 ∨ z 0 = 1) ∧ (0 ≤ z 1 ∧ z 1 ≤ 2000000) ∧ (0 ≤ z 2 ∧ z 2 ≤ 2000000) ∧ (0 ≤ z 3 ∧ z 3 ≤ 2100000) ∧ (0 ≤ z 4 ∧ z 4 ≤ 2000000000) ∧ (1 ≤ z 5 ∧ z 5 ≤ 9999) ∧ (-99 ≤ z 6 ∧ z 6 ≤ 99) ∧ (z 0 = 1 → 1 ≤ z 3 ∧ z 5 ≤ 999)
theorem ms_number {S : shp} {v : vl} {r N : Nat} {z : Nat → Int} {w : Int} (hN : 100 ≤ N) (hr : kin S r = some (0, 1)) (hz : ag 7 (rw v r) z) (hV : msV z) (hw : 0 ≤ w ∧ w ≤ 7) : F_ms_number N r (J w) S v = some (J (mN z w)) := by
  obtain ⟨v0, v1, v2, v3, -⟩ := hV
  have e : ∀ n : Int, (0 ≤ n ∧ n ≤ 7) → (J w = J n ↔ w = n) := fun n hn => J_eq (by omega) (by omega)
  have a0 := hz 0 (by decide)
  have a1 := hz 1 (by decide)
  have a2 := hz 2 (by decide)
  have a3 := hz 3 (by decide)
  have a4 := hz 4 (by decide)
  have a5 := hz 5 (by decide)
  have a6 := hz 6 (by decide)
  unfold F_ms_number mN
  simp only [e 0 (by decide), e 1 (by decide), e 2 (by decide), e 3 (by decide), e 4 (by decide), e 5 (by decide), e 6 (by decide), gi_x, a0, a1, a2, a3, a4, a5, a6]
  by_cases h0 : w = 0
  · rw [if_pos h0, if_pos h0, grd_true _ hr]
    rcases v0 with q | q
    · rw [q, if_pos rfl]
    · rw [q, if_neg (by decide)]
  · rw [if_neg h0, if_neg h0]
    by_cases h1 : w = 1
    · rw [if_pos h1, if_pos h1, grd_true _ hr]
    · rw [if_neg h1, if_neg h1]
      by_cases h2 : w = 2
      · rw [if_pos h2, if_pos h2, grd_true _ hr]
      · rw [if_neg h2, if_neg h2]
        by_cases h3 : w = 3
        · rw [if_pos h3, if_pos h3, grd_true _ hr]
        · rw [if_neg h3, if_neg h3]
          by_cases h4 : w = 4
          · rw [if_pos h4, if_pos h4, grd_true _ hr]
          · rw [if_neg h4, if_neg h4]
            by_cases h5 : w = 5
            · rw [if_pos h5, if_pos h5, grd_true _ hr, gc_digitsOf hN (by omega)]
              rfl
            · rw [if_neg h5, if_neg h5]
              by_cases h6 : w = 6
              · rw [if_pos h6, if_pos h6, grd_true _ hr]
              · rw [if_neg h6, if_neg h6, grd_true _ hr]
theorem st_at_in {S : shp} {v : vl} {b : Nat} {h : Nat → Int} {M : Nat → Nat → Int} {i : Nat} (hl : stL S b) (h5 : rw v b 5 = J (h 5)) (hh : h 5 ≤ 20) (hm : msR S v (b + 5) (h 5) M) (hi : (i : Int) < h 5) : ∃ r, F_st_at b (J i) S v = some (some r) ∧ kin S r = some (0, 1) ∧ ag 7 (rw v r) (M i) := by
  obtain ⟨k0, r6, k1, r7, l2, r8, k5⟩ := id hl
  obtain ⟨r, r1, r2, r3⟩ := hm i hi
  have ti : (J (i : Int)).toInt = i := J_toInt (by omega) (by omega)
  have t5 : (J (h 5)).toInt = h 5 := J_toInt (by omega) (by omega)
  refine ⟨r, ?_, r2, r3⟩
  unfold F_st_at
  rw [if_neg (fun q => by have := i_lt.mp q; rw [ti, tJ] at this; omega), grd_true _ k0, gi_rw, h5, if_pos (i_lt.mpr (by rw [ti, t5]; exact hi)), r8]
  simp only [Option.bind_some]
  rw [grd_true _ k5, grd_true _ (vin_of k5 ti (by omega)), clampT ti, r1]
  rfl
theorem st_at_out {S : shp} {v : vl} {b : Nat} {h : Nat → Int} {i : Int} (hl : stL S b) (h5 : rw v b 5 = J (h 5)) (hh : 0 ≤ h 5 ∧ h 5 ≤ 20) (hi : -2147483648 ≤ i ∧ i < 2147483648) (ho : i < 0 ∨ h 5 ≤ i) : F_st_at b (J i) S v = some none := by
  have ti : (J i).toInt = i := J_toInt (by omega) (by omega)
  have t5 : (J (h 5)).toInt = h 5 := J_toInt (by omega) (by omega)
  unfold F_st_at
  by_cases q : i < 0
  · rw [if_pos (i_lt.mpr (by rw [ti, tJ]; exact q))]
  · rw [if_neg (fun y => q (by have := i_lt.mp y; rw [ti, tJ] at this; exact this)), grd_true _ hl.1, gi_rw, h5, if_neg (fun y => by have := i_lt.mp y; rw [ti, t5] at this; omega)]
theorem st_latest {S : shp} {v : vl} {b N : Nat} {h : Nat → Int} {M : Nat → Nat → Int} {w : Int} (hN : 100 ≤ N) (hl : stL S b) (h5 : rw v b 5 = J (h 5)) (hh : 1 ≤ h 5 ∧ h 5 ≤ 20) (hm : msR S v (b + 5) (h 5) M) (hV : ∀ i : Nat, (i : Int) < h 5 → msV (M i)) (hw : 0 ≤ w ∧ w ≤ 7) : F_st_latestNumber N b (J w) S v = some (J (mN (M (h 5 - 1).toNat) w)) := by
  have e : J (h 5) - J 1 = J (((h 5 - 1).toNat : Nat) : Int) := by rw [← J_sub, show ((h 5 - 1).toNat : Int) = h 5 - 1 by omega]
  obtain ⟨r, r1, r2, r3⟩ := st_at_in (i := (h 5 - 1).toNat) hl h5 hh.2 hm (by omega)
  unfold F_st_latestNumber
  rw [grd_true _ hl.1, gi_rw, h5, e, r1]
  simp only [Option.bind_some, oc2]
  rw [grd_true _ r2, ms_number hN r2 r3 (hV _ (by omega)) hw]
  rfl
-- a new measurement
theorem stM_new {S : shp} {v : vl} {b z : Nat} {k : kd} {h c g t p : Nat → Int} {f : Nat → Int32} (hw : wfS S) (hM : stM S v b h c g t p) : stM (grow S k z) (wr (zero v (nxt S)) (nxt S) f) b h c g t p := by
  obtain ⟨hl, a1, a2, a3, a4, a5⟩ := hM
  obtain ⟨k0, r6, k1, r7, ⟨k2, k3, k4, r9, r10⟩, r8, k5⟩ := id hl
  have n := fun {a : Nat} {d : kd} (h : kin S a = some d) => Nat.ne_of_lt (kin_lt hw h)
  have e1 : ∀ {a : Nat} {d : kd}, kin S a = some d → kin (grow S k z) a = some d := fun h => by rw [kin_grow, if_neg (n h)]; exact h
  have e2 : ∀ {a j : Nat} {d : kd} {x : Option Nat}, kin S a = some d → gr S a j = x → gr (grow S k z) a j = x := fun h hx => by rw [gr_grow, if_neg (n h)]; exact hx
  have e3 : ∀ {a : Nat} {d : kd}, kin S a = some d → rw (wr (zero v (nxt S)) (nxt S) f) a = rw v a := fun h => by rw [rw_wr_ne (n h), rw_zero (n h)]
  refine ⟨⟨e1 k0, e2 k0 r6, e1 k1, e2 k0 r7, ⟨e1 k2, e1 k3, e1 k4, e2 k2 r9, e2 k2 r10⟩, e2 k0 r8, e1 k5⟩, ?_, ?_, ⟨e1 k2, e1 k3, e1 k4, e2 k2 r9, e2 k2 r10⟩, ?_, fun i hi => ?_⟩
  · rw [e3 k0]; exact a1
  · rw [e3 k1]; exact a2
  · rw [e3 k2]; exact a4
  · rw [e3 k3, e3 k4]; exact a5 i hi
theorem msR_new {S : shp} {v : vl} {x z : Nat} {k d : kd} {n : Int} {M : Nat → Nat → Int} {f : Nat → Int32} (hw : wfS S) (hx : kin S x = some d) (hm : msR S v x n M) : msR (grow S k z) (wr (zero v (nxt S)) (nxt S) f) x n M := by
  intro i hi
  obtain ⟨r, r1, r2, r3⟩ := hm i hi
  have n1 := Nat.ne_of_lt (kin_lt hw hx)
  have n2 := Nat.ne_of_lt (kin_lt hw r2)
  exact ⟨r, by rw [gr_grow, if_neg n1]; exact r1, by rw [kin_grow, if_neg n2]; exact r2, by rw [rw_wr_ne n2, rw_zero n2]; exact r3⟩
theorem ms_init {S : shp} {v : vl} {r : Nat} {b0 T0 T1 n w s k : Int} (hr : kin S r = some (0, 1)) (hb : b0 = 0 ∨ b0 = 1) : ∃ f, F_ms_init r (J b0) (J T0) (J T1) (J n) (J w) (J s) (J k) S v = some (wr v r f) ∧ ag 7 f (msZ b0 T0 T1 n w s k) := by
  have hg : narrow (fty 1 0) (.int (J b0)) = .int (J b0) ∧ fits (fty 1 0) (.int (J b0)) = true := by
    rcases hb with q | q <;> subst q <;> exact ⟨by decide, by decide⟩
  unfold F_ms_init
  rw [grd_true _ hr, grd_true _ hg]
  simp only [lt_def, si_wr, wr_wr, rw_wr, gi_x]
  refine ⟨_, rfl, fun j hj => ?_⟩
  match j with
  | 0 => rfl
  | 1 => rfl
  | 2 => rfl
  | 3 => rfl
  | 4 => rfl
  | 5 => rfl
  | 6 => rfl
  | j + 7 => omega
/-- outputs in a gate -/
def gO (t p : Nat → Int) (G : Nat) (c g : Nat → Int) : Int := gG t p G c g 3 - gG t p 0 c g 3
def hG (h : Nat → Int) (T : Int) : Nat → Int := fun k => if k = 4 then h 4 + 1 else if k = 5 then kpN (h 5) else if k = 0 then T else h k
theorem gG_V {t p c g : Nat → Int} {G : Nat} (hc : ckI c) (hg : sgV t p g) (h : (tkN G c) 4 ≤ 2000000) : sgV t p (gG t p G c g) ∧ gG t p G c g 4 = g 4 ∧ sgK t p (3 * (tkN G c) 4) (gG t p 0 c g) = gG t p G c g ∧ 0 ≤ gO t p G c g ∧ gO t p G c g ≤ 2100000 := by
  have hm := tkN_mono hc (show 0 ≤ G by omega)
  have c0 : (tkN 0 c) 4 = c 4 := rfl
  obtain ⟨⟨u, hJ, q0, q1⟩, s6, s7⟩ := id hg
  obtain ⟨k1, k8, k4⟩ := sgV_K (K := 3 * (tkN G c) 4) hg (by omega)
  obtain ⟨k1', k8', k4'⟩ := sgV_K (K := 3 * (tkN 0 c) 4) hg (by omega)
  have hKK : sgK t p (3 * (tkN G c) 4) (gG t p 0 c g) = gG t p G c g := sgK_K hJ q0 q1 (by omega) (by omega)
  refine ⟨k1, k4, hKK, ?_, ?_⟩
  · obtain ⟨u', hJ', q0', q1'⟩ := k1'.1
    have := sgK_M (K := 3 * (tkN G c) 4) hJ' q0' q1' (by omega) (fun h => gG t p 0 c g 3 ≤ h 3) (Int.le_refl _) (fun u h _ _ _ hM _ => by
      have := (ev1_67 t p h).2.2.2.1
      omega)
    have e : gG t p 0 c g 3 ≤ gG t p G c g 3 := by rw [← hKK]; exact this
    unfold gO
    omega
  · obtain ⟨u1, j1, -, z1⟩ := k1.1
    obtain ⟨u2, j2, -, z2⟩ := k1'.1
    have e1 : 0 ≤ gG t p 0 c g 3 := j2.1.2.2.2.1.1
    have e2 : gG t p G c g 3 ≤ 2100000 := by
      have := j1.1.2.2.2.1
      have e : gG t p G c g = sgK t p (3 * (tkN G c) 4) g := rfl
      rw [e]
      omega
    unfold gO
    omega
theorem st_gate {S : shp} {v : vl} {b N : Nat} {h c g t p : Nat → Int} {M : Nat → Nat → Int} {G : Nat} (hN : 7000000 ≤ N) (hw : wfS S) (hM : stM S v b h c g t p) (hm : msR S v (b + 5) (h 5) M) (hc : ckV c) (hg : sgV t p g) (hh : hV h) (hG1 : h 1 = G) :
    ((tkN G c) 4 ≤ 2000000 → ∃ S' v', F_st_measureByGate N b S v = some (J 0, S', v') ∧ stM S' v' b (hG h ((tkN G c) 4)) (tkN (G + 1) c) (gG t p G c g) t p ∧ msR S' v' (b + 5) (kpN (h 5)) (kpM (h 5) M (msZ 0 (c 4) ((tkN G c) 4) (gO t p G c g) (valZ (gO t p G c g) (h 1) (c 0) (h 3) (g 4)) (h 1) (h 3))) ∧ exi b 6 1 7 S v S' v') ∧
    (2000000 < (tkN G c) 4 → ∃ v', F_st_measureByGate N b S v = some (J 1, S, v') ∧ fri b 6 v v') := by
  obtain ⟨hv0, hv1, hv2, hv3, hv5⟩ := hh
  obtain ⟨k0, r6, k1, r7, l2, r8, k5⟩ := id hM.1
  have hm4 := tkN_mono hc.1 (show 0 ≤ G by omega)
  have hG4 := (tkN_inv hc.1 G).2.2.2.1
  have c0 : (tkN 0 c) 4 = c 4 := rfl
  have h40 := hc.1.2.2.2.2
  have hcB := hc.2.1
  have hB4 := sgV_rng hg
  have n1 : ¬ J 1 = J 0 := by decide
  by_cases q4 : c 4 ≤ 2000000
  · obtain ⟨v1, s1, M1, F1⟩ := (stM_toClock hN hM hc hg).1 q4
    have hc1 := ckV_tick hc (Int.le_trans q4 (by decide))
    obtain ⟨-, h1, cc1, g1⟩ := id M1
    have e1 : rw v1 b 1 = J (G : Int) := by rw [h1 1 (by decide)]; show J (h 1) = _; rw [hG1]
    obtain ⟨f2, s2, a2⟩ := ckW_passEdges (n := G) hN k1 cc1 (ckV_rng hc1) hc1.1 (by have := hc1.2.1; omega) (by have := hc1.2.1; omega) (by omega)
    have e2 : tkN G (tkZ c) = tkN (G + 1) c := by rw [show G + 1 = 1 + G by omega, tkN_add]; rfl
    rw [e2] at a2
    have e6 : f2 6 = J ((tkN G c) 4) := a2 6 (by decide)
    have tT : (J ((tkN G c) 4)).toInt = (tkN G c) 4 := J_toInt (by omega) (by omega)
    have t2 : (J 2000000).toInt = 2000000 := tJ
    have F2 : fri b 6 v (wr v1 (b + 1) f2) := fri_tr F1 (fri_wr (by omega))
    have start : F_st_measureByGate N b S v = (if (J 2000000) < J ((tkN G c) 4) then some (((J 1), S, wr v1 (b + 1) f2)) else lt (si (wr v1 (b + 1) f2) b 0 (gi (wr v1 (b + 1) f2) (b + 1) 6)) fun w11 => (F_sg_passAheadOfClock N (b + 2) (gi w11 b 0) S w11).bind fun w12 => (F_st_valueOf b ((gi w12 (b + 2) 3) - (gi v1 (b + 2) 3)) (gi w12 b 1) (gi w12 b 3) S w12).bind fun x13 => grd (kin S (nxt S) = none) <| lt3 (grow S (0, 1) (fTN 1).2.1) (nxt S) (zero w12 (nxt S)) fun S15 r16 v17 => grd (kin S15 b = some (0, 4)) <| (F_ms_init r16 (J 0) (gi v1 b 0) (gi v17 b 0) ((gi w12 (b + 2) 3) - (gi v1 (b + 2) 3)) x13 (gi v17 b 1) (gi v17 b 3) S15 v17).bind fun w21 => (F_st_keep N b r16 S15 w21).bind fun (S22, w23) => some (((J 0), S22, w23))) := by
      unfold F_st_measureByGate
      rw [grd_true _ k0, s1]
      simp only [Option.bind_some, n1, if_false]
      rw [r7]
      simp only [Option.bind_some]
      rw [grd_true _ l2.1, r6]
      simp only [Option.bind_some]
      rw [grd_true _ k1, gi_rw, e1, s2]
      simp only [Option.bind_some]
      rw [show gi (wr v1 (b + 1) f2) (b + 1) 6 = J ((tkN G c) 4) by rw [gi_rw, rw_wr]; exact e6]
    rw [start]
    refine ⟨fun qT => ?_, fun qT => ?_⟩
    · rw [if_neg (fun z => by have := i_lt.mp z; rw [t2, tT] at this; omega)]
      obtain ⟨gV, g4, gK, o1, o2⟩ := gG_V (G := G) hc.1 hg qT
      simp only [lt_def, si_wr, gi_x, rw_wr, e6]
      obtain ⟨v3, hv3'⟩ : ∃ w, w = wr (wr v1 (b + 1) f2) b (up (rw (wr v1 (b + 1) f2) b) 0 (J ((tkN G c) 4))) := ⟨_, rfl⟩
      have e30 : up (rw (wr v1 (b + 1) f2) b) 0 (J ((tkN G c) 4)) 0 = J ((tkN G c) 4) := up_same
      rw [← hv3', e30]
      have gV0 : sgV t p (sgK t p (3 * c 4) g) := (sgV_K hg (by omega)).1
      have W3 : sgW S v3 (b + 2) t p (sgK t p (3 * c 4) g) := by
        subst hv3'
        refine ⟨l2, ?_, fun i hi => ?_⟩
        · rw [rw_wr_ne (by omega), rw_wr_ne (by omega)]; exact g1.2.1
        · rw [rw_wr_ne (by omega), rw_wr_ne (by omega), rw_wr_ne (by omega), rw_wr_ne (by omega)]; exact g1.2.2 i hi
      obtain ⟨f4, s4, a4, W4⟩ := sgW_passAhead (T := (tkN G c) 4) (show 100 ≤ N by omega) W3 gV0 (by omega)
      have gK' : sgK t p (3 * (tkN G c) 4) (sgK t p (3 * c 4) g) = gG t p G c g := gK
      rw [gK'] at a4 W4
      rw [s4]
      simp only [Option.bind_some]
      -- the state behind all that
      have M4 : stM S (wr v3 (b + 2) f4) b (fun k => if k = 0 then (tkN G c) 4 else h k) (tkN (G + 1) c) (gG t p G c g) t p := by
        refine ⟨hM.1, fun k hk => ?_, ?_, W4⟩
        · rw [rw_wr_ne (show b ≠ b + 2 by omega), hv3', rw_wr, rw_wr_ne (show b ≠ b + 1 by omega)]
          show (if k = 0 then J ((tkN G c) 4) else rw v1 b k) = J (if k = 0 then (tkN G c) 4 else h k)
          by_cases z : k = 0
          · rw [if_pos z, if_pos z]
          · rw [if_neg z, if_neg z, h1 k hk]
            show J (if k = 0 then c 4 else h k) = _
            rw [if_neg z]
        · rw [rw_wr_ne (show b + 1 ≠ b + 2 by omega), hv3', rw_wr_ne (show b + 1 ≠ b by omega), rw_wr]
          exact a2
      have F4 : fri b 6 v (wr v3 (b + 2) f4) := by
        refine fri_tr F2 (fri_tr ?_ (fri_wr (by omega)))
        rw [hv3']
        exact fri_wr (by omega)
      have hm4 : msR S (wr v3 (b + 2) f4) (b + 5) (h 5) M := msR_fri hm hM.1 F4
      have eo : rw (wr v3 (b + 2) f4) (b + 2) 3 - rw v1 (b + 2) 3 = J (gO t p G c g) := by
        rw [rw_wr, a4 3 (by decide), g1.2.1 3 (by decide), ← J_sub]
        rfl
      have eb : ∀ k, k < 6 → rw (wr v3 (b + 2) f4) b k = J (if k = 0 then (tkN G c) 4 else h k) := M4.2.1
      have eb1 : rw (wr v3 (b + 2) f4) b 1 = J (h 1) := eb 1 (by decide)
      have eb3 : rw (wr v3 (b + 2) f4) b 3 = J (h 3) := eb 3 (by decide)
      have eb0 : rw (wr v3 (b + 2) f4) b 0 = J ((tkN G c) 4) := eb 0 (by decide)
      have e10 : rw v1 b 0 = J (c 4) := h1 0 (by decide)
      have cz : (tkN (G + 1) c) 0 = c 0 := (tkN_inv hc.1 (G + 1)).2.2.2.2.1
      have gP : 1 ≤ g 4 ∧ g 4 ≤ 16 := hg.1.choose_spec.1.1.2.2.2.2.1
      rw [eo, eb1, eb3, st_valueOf M4 (by rw [cz]; exact hc.1.1) (by rw [g4]; exact gP) (by omega) (by omega) hv3, cz, g4]
      simp only [Option.bind_some]
      have nb : b ≠ nxt S := Nat.ne_of_lt (kin_lt hw k0)
      rw [grd_true _ (hw _ (Nat.le_refl _))]
      simp only [lt3, rw_zero nb]
      rw [grd_true _ (by rw [kin_grow, if_neg nb]; exact k0), e10, eb0, eb1, eb3]
      have kr : kin (grow S (0, 1) (fTN 1).2.1) (nxt S) = some (0, 1) := by rw [kin_grow, if_pos rfl]
      obtain ⟨f5, s5, a5⟩ := ms_init (v := zero (wr v3 (b + 2) f4) (nxt S)) (b0 := 0) (T0 := c 4) (T1 := (tkN G c) 4) (n := gO t p G c g) (w := valZ (gO t p G c g) (h 1) (c 0) (h 3) (g 4)) (s := h 1) (k := h 3) kr (Or.inl rfl)
      rw [s5]
      simp only [Option.bind_some]
      have x0 : exi b 6 0 0 S v S (wr v3 (b + 2) f4) := exi_fri F4
      have x1 : exi b 6 1 7 S (wr v3 (b + 2) f4) (grow S (0, 1) (fTN 1).2.1) (wr (zero (wr v3 (b + 2) f4) (nxt S)) (nxt S) f5) := exi_new exi_grow (Nat.le_refl _)
      have x2 := exi_tr x0 x1
      have w1 : wfS (grow S (0, 1) (fTN 1).2.1) := exi_wf x1 hw
      obtain ⟨S', v', p1, p2, p3, p4⟩ := st_keep (N := N) (r := nxt S) (by omega) w1 (stM_new hw M4) (msR_new hw k5 hm4) kr (by rw [rw_wr]; exact a5) (by show 0 ≤ h 5 ∧ h 5 ≤ 20; exact hv5)
      rw [p1]
      simp only [Option.bind_some]
      refine ⟨S', v', rfl, ⟨p2.1, ?_, p2.2.2⟩, p3, exi_tr x2 p4⟩
      exact p2.2.1
    · rw [if_pos (i_lt.mpr (by rw [t2, tT]; exact qT))]
      exact ⟨_, rfl, F2⟩
  · have s1 := (stM_toClock hN hM hc hg).2 (show 2000000 < c 4 by omega)
    refine ⟨fun qT => by omega, fun _ => ?_⟩
    unfold F_st_measureByGate
    rw [grd_true _ k0, s1]
    simp only [Option.bind_some, if_true]
    exact ⟨v, rfl, fri_refl _ _ _⟩
end MADE
