/-! Walks over outputs. -/
section PERIODS
theorem eT_end {t p : Nat → Int} : ∀ (n : Nat) (k u : Int) (g : Nat → Int), sgJ u t p g → 0 ≤ u → 6000003 - keS t g < n → 1 ≤ k → eT t p k g = -1 → sgK t p 6000002 g 2 < g 2 + k
  | 0, k, u, g, _, _, hn, hk, h => by
    rw [sgK_0 (by omega)]
    omega
  | n + 1, k, u, g, hJ, hu, hn, hk, h => by
    by_cases q : 6000002 < keS t g
    · rw [sgK_0 q]
      omega
    · obtain ⟨u', k1, k2, k3, k4, k5, k6, -⟩ := ev1_J hJ hu (show keS t g ≤ 6300002 by omega)
      rw [sgK_ev hJ hu (by decide) (show keS t g ≤ 6000002 by omega)]
      have e := eT_1 (k := k) hJ hu (show keS t g ≤ 6000002 by omega)
      rw [e] at h
      by_cases hs : evS t g
      · rw [if_pos hs] at h
        have := eT_end n k u' _ k1 (by omega) (by omega) hk h
        have e2 : ev1 t p g 2 = g 2 := by unfold ev1; rw [if_pos hs]; rfl
        omega
      · have e2 : ev1 t p g 2 = g 2 + 1 := by unfold ev1; rw [if_neg hs]; rfl
        rw [if_neg hs] at h
        have := k6 hs
        by_cases q1 : k ≤ 1
        · rw [if_pos q1] at h
          omega
        · rw [if_neg q1] at h
          have := eT_end n (k - 1) u' _ k1 (by omega) (by omega) (by omega) h
          omega
def oC (t p g : Nat → Int) : Int := sgK t p 6000002 g 3 - g 3
theorem oN_end {t p g : Nat → Int} (hg : sgV t p g) {i : Nat} : oN t p i g ≠ -1 ↔ (i : Int) + 1 ≤ oC t p g := by
  obtain ⟨⟨u, hJ, q0, q1⟩, -⟩ := hg
  obtain ⟨k1, -, -⟩ := oN_k hJ i
  constructor
  · intro h
    obtain ⟨e3, -, -, -, b1, b2, -⟩ := oN_at hJ q0 q1 h
    obtain ⟨-, u', j1, j2, j3, -⟩ := sgK_J (K := 3 * oN t p i g + 2) hJ q0 q1 (by omega)
    have ek := sgK_K (K := 3 * oN t p i g + 2) (L := 6000002) hJ q0 q1 (by omega) (by decide)
    have := sgK_M (K := 6000002) j1 (by omega) (by omega) (by decide) (fun h => sgK t p (3 * oN t p i g + 2) g 3 ≤ h 3) (Int.le_refl _) (fun u h _ _ _ hM _ => by
      have := (ev1_67 t p h).2.2.2.1
      omega)
    rw [ek] at this
    unfold oC
    omega
  · intro h z
    have e := eT_end _ _ u g hJ q0 (fuel6 _) k1 z
    have s := sgK_sum (K := 6000002) hJ q0 q1 (by decide)
    obtain ⟨-, u', j1, -⟩ := sgK_J (K := 6000002) hJ q0 q1 (by decide)
    have e4 := sgK_keep (K := 6000002) hJ q0 q1 (by decide) 4 (Or.inl rfl)
    have h5 := j1.1.2.2.2.2.2
    have hp := hJ.1.2.2.2.2.1
    unfold oC at h
    have m := Int.mul_le_mul_of_nonneg_right h (show 0 ≤ g 4 by omega)
    rw [Int.sub_mul] at m
    omega
variable {S : shp} {v : vl} {a b m N q : Nat} {h c g t p X : Nat → Int} {M : Nat → Nat → Int} {sv : Option sta} {ps : List sta} {re ca ch : Int}
def eO (t p g : Nat → Int) (i : Nat) : Bool := decide (oN t p i g ≠ -1)
theorem eO_1 {i : Nat} (h : oN t p i g ≠ -1) : eO t p g i = true := decide_eq_true h
theorem eO_0 {i : Nat} (h : oN t p i g = -1) : ¬ eO t p g i = true := fun z => (of_decide_eq_true z) h
def dP (t p c g : Nat → Int) (n : Int) (i : Nat) : Bool := decide (n ≤ dgZ (cO t p i c g))
def pfZ (t p c g : Nat → Int) (n : Int) : Int := if oN t p 0 g = -1 then -1 else wkZ (eO t p g) (dP t p c g n) 999 1
theorem sgW_ne {x y : Nat} {f : Nat → Int32} (hW : sgW S v x t p g) (hy : y < x ∨ x + 3 ≤ y) : sgW S (wr v y f) x t p g :=
  ⟨hW.1, by rw [rw_wr_ne (by omega)]; exact hW.2.1, fun i hi => by rw [rw_wr_ne (by omega), rw_wr_ne (by omega)]; exact hW.2.2 i hi⟩
theorem gc_periodsForLoop {n : Int} (hN : 7000000 ≤ N) (ka : kin S a = some (0, 5)) (ga : gr S a 5 = some b) (kb : kin S b = some (0, 4)) (gb : gr S b 7 = some (b + 2)) (k2 : kin S (b + 2) = some (0, 3)) {x : Nat} (kx : kin S x = some (0, 0)) (hx : x < b + 2 ∨ b + 5 ≤ x) (hc : ckV c) (hg : sgV t p g) (hn : 1 ≤ n ∧ n ≤ 6) : ∀ (f j : Nat) (v : vl), j ≤ 999 → 999 - j < f → oN t p j g ≠ -1 → sgW S v (b + 2) t p g → ag 7 (rw v x) (ckK (oN t p j g) c) →
    ∃ v', K_gc_periodsFor_52 N f S v a (J n) x (J (ckK (oN t p 0 g) c 5)) (J ((j + 1 : Nat) : Int)) = some (.inr (J (wkZ (eO t p g) (dP t p c g n) (999 - j) (j + 1)), S, v')) ∧ fri x 1 v v'
  | 0, j, v, _, h, _, _, _ => absurd h (Nat.not_lt_zero _)
  | f + 1, j, v, hj, hf, h4, hW, hC => by
    have n1 : ¬ J 1 = J 0 := by decide
    show ∃ v', Y_gc_periodsFor_52 N (K_gc_periodsFor_52 N f) S v a (J n) x (J (ckK (oN t p 0 g) c 5)) (J ((j + 1 : Nat) : Int)) = _ ∧ _
    unfold Y_gc_periodsFor_52
    by_cases q : j = 999
    · subst q
      rw [if_pos (by decide)]
      exact ⟨v, rfl, fri_refl _ _ _⟩
    · obtain ⟨⟨u, hJ, q0, q1⟩, -⟩ := id hg
      rw [if_neg (fun z => by have := (J_lt (by decide) (by omega)).mp z; omega), grd_true _ ka, ga]
      simp only [Option.bind_some]
      rw [grd_true _ kb, gb]
      simp only [Option.bind_some]
      rw [grd_true _ k2, show J 1 + J ((j + 1 : Nat) : Int) = J (((j + 1 : Nat) : Int) + 1) by rw [← J_add, Int.add_comm], sgW_timeOfOutput (by omega) hW hg (by omega), show 999 - j = (999 - (j + 1)) + 1 by omega, wkZ_s]
      simp only [Option.bind_some]
      by_cases y : oN t p (j + 1) g = -1
      · rw [if_pos (by rw [y]), if_neg (eO_0 y)]
        exact ⟨v, rfl, fri_refl _ _ _⟩
      · have rG := oN_rng (i := j + 1) hg
        have r0 := oN_rng (i := j) hg
        obtain ⟨-, z2⟩ := oN_lt hJ q0 q1 y
        obtain ⟨f1, s1, s2⟩ := ckW_passTo (S := S) (N := N) (T := oN t p (j + 1) g) hN kx hC (ckV_K hc (by omega)).1 (by omega)
        rw [ckK_K hc.1 (by omega)] at s2
        have hB := cO_B (h := c) hc hg y
        have hD := dgZ_B (cO t p (j + 1) c g)
        have r5 : f1 5 = J (ckK (oN t p (j + 1) g) c 5) := s2 5 (by decide)
        have ec : ckK (oN t p (j + 1) g) c 5 - ckK (oN t p 0 g) c 5 = cO t p (j + 1) c g := rfl
        rw [if_neg (show ¬ J (oN t p (j + 1) g) = J (-1) from fun z => y ((J_eq (by omega) (by decide)).mp z)), grd_true _ kx, s1, if_pos (eO_1 y)]
        simp only [Option.bind_some, gi_x, rw_wr, r5]
        rw [← J_sub, ec, gc_digitsOf (by omega) (by omega)]
        simp only [Option.bind_some]
        have F1 : fri x 1 v (wr v x f1) := fri_wr (by omega)
        by_cases w : n ≤ dgZ (cO t p (j + 1) c g)
        · rw [if_neg (fun z => by have := (J_lt (by omega) (by omega)).mp z; omega), if_pos (show dP t p c g n (j + 1) = true from decide_eq_true w)]
          exact ⟨_, rfl, F1⟩
        · rw [if_pos ((J_lt (by omega) (by omega)).mpr (by omega)), if_neg (show ¬ dP t p c g n (j + 1) = true from fun z => w (of_decide_eq_true z)), J_s]
          obtain ⟨v2, p1, p2⟩ := gc_periodsForLoop hN ka ga kb gb k2 kx hx hc hg hn f (j + 1) (wr v x f1) (by omega) (by omega) y (sgW_ne hW (by omega)) (by rw [rw_wr]; exact s2)
          exact ⟨v2, p1, fri_tr F1 p2⟩
theorem gc_periodsFor {n : Int} (hN : 7000000 ≤ N) (hw : wfS S) (hR : cR S v a (h, c, g, t, p, M) sv ps re ca ch q) (hn : -2147483648 ≤ n ∧ n < 2147483648) :
    QC (F_gc_periodsFor N a (J n) S v) (fun _ => 0) (rgO 1 6 n (pfZ t p c g n)) (PC a (h, c, g, t, p, M) sv ps re ca ch q S v) := by
  have n1 : ¬ J 1 = J 0 := by decide
  obtain ⟨k0, g5, n0, r6, n1', r7, n2, hh, hcR, hgR⟩ := cR_now hR
  unfold F_gc_periodsFor rgO
  rw [gc_within hn (by decide) (by decide)]
  by_cases z : 1 ≤ n ∧ n ≤ 6
  · have hV := cR_V hR
    have hc := hV.2.1
    have hg := hV.2.2.1
    have hW := cR_W hR
    have e1 : J 1 = J (((0 : Nat) : Int) + 1) := rfl
    have T0 := sgW_timeOfOutput (n := 0) (show 100 ≤ N by omega) hW hg (by decide)
    rw [if_pos z, if_pos z, bx_r, grd_true _ k0, g5]
    simp only [Option.bind_some]
    rw [grd_true _ n0, r7]
    simp only [Option.bind_some]
    rw [grd_true _ n2, e1, T0]
    simp only [Option.bind_some]
    unfold pfZ
    by_cases y : oN t p 0 g = -1
    · rw [if_pos (by rw [y]), if_pos y]
      exact ⟨S, v, rfl, hw, hR, exg_mono exg_refl (by decide) (by decide)⟩
    · obtain ⟨S1, v1, s1, s2, R1, w1, x1⟩ := fresh_R (N := N) (by omega) hw hR (Or.inl rfl)
      obtain ⟨k0', g5', n0', r6', n1'', r7', n2', -⟩ := cR_now R1
      obtain ⟨b0, b6, b1, b7, bl, b8, b5⟩ := id s2.1.1
      have rG := oN_rng (i := 0) hg
      obtain ⟨f1, u1, u2⟩ := ckW_passTo (S := S1) (N := N) (T := oN t p 0 g) hN b1 s2.1.2.2.1 hc (by omega)
      have r5 : f1 5 = J (ckK (oN t p 0 g) c 5) := u2 5 (by decide)
      have W1 := cR_W R1
      rw [if_neg (show ¬ J (oN t p 0 g) = J (-1) from fun z => y ((J_eq (by omega) (by decide)).mp z)), if_neg y, (gr67 hR.1).1]
      simp only [Option.bind_some, s1, oc2, b0, b6, b1, grd_pos]
      rw [u1]
      simp only [Option.bind_some, gi_x, rw_wr, r5]
      obtain ⟨v2, p1, p2⟩ := gc_periodsForLoop hN k0' g5' n0' r7' n2' b1 (by omega) hc hg z N 0 (wr v1 (a + 17 + 1) f1) (by decide) (by omega) y (sgW_ne W1 (by omega)) (by rw [rw_wr]; exact u2)
      have F1 : fri (a + 17) 6 v1 v2 := fri_tr (fri_wr (by omega)) (fri_mono p2 (by omega) (by omega))
      exact ⟨S1, v2, p1, scr_P hR hw (Or.inl rfl) s2.1.1 (exi_tr x1 (exi_fri F1)) (by decide) (by decide)⟩
  · rw [if_neg z, if_neg z, bx_l]
    rfl
-- most periods
def mpZ (t p c g : Nat → Int) : Int := if minZ 999 (oC t p g - 1) < 1 then -1 else if cO t p (minZ 999 (oC t p g - 1)).toNat c g = 0 then -1 else minZ 999 (oC t p g - 1)
theorem oC_B (hg : sgV t p g) : 0 ≤ oC t p g ∧ oC t p g ≤ 2100000 ∧ 0 ≤ sgK t p 6000002 g 3 ∧ sgK t p 6000002 g 3 ≤ 2100000 ∧ 0 ≤ g 3 ∧ g 3 ≤ 2100000 := by
  obtain ⟨k1, -, -⟩ := sgV_K (K := 6000002) hg (by decide)
  obtain ⟨⟨u, hJ, q0, q1⟩, -⟩ := hg
  obtain ⟨⟨u', hJ', q0', q1'⟩, -⟩ := k1
  have b1 := hJ.1.2.2.2.1
  have b2 := hJ'.1.2.2.2.1
  have := sgK_M (K := 6000002) hJ q0 q1 (by decide) (fun h => g 3 ≤ h 3) (Int.le_refl _) (fun u h _ _ _ hM _ => by
      have := (ev1_67 t p h).2.2.2.1
      omega)
  unfold oC
  omega
theorem gc_mostPeriods (hN : 7000000 ≤ N) (hw : wfS S) (hR : cR S v a (h, c, g, t, p, M) sv ps re ca ch q) :
    QD (F_gc_mostPeriods N a S v) (mpZ t p c g) (PC a (h, c, g, t, p, M) sv ps re ca ch q S v) := by
  obtain ⟨k0, g5, n0, r6, n1', r7, n2, hh, hcR, hgR⟩ := cR_now hR
  obtain ⟨S1, v1, s1, s2, R1, w1, x1⟩ := fresh_R (N := N) (by omega) hw hR (Or.inl rfl)
  obtain ⟨b0, b6, b1, b7, bl, b8, b5⟩ := id s2.1.1
  have hS := cR_V hR
  have hg := hS.2.2.1
  obtain ⟨k0', g5', n0', r6', n1'', r7', n2', -, -, hgR'⟩ := cR_now R1
  obtain ⟨f1, u1, u2⟩ := sgW_passTo (N := N) (T := 2000000) (by omega) s2.1.2.2.2 hg (by decide)
  have hB := oC_B hg
  have e3 : f1 3 = J (sgK t p 6000002 g 3) := u2.1 3 (by decide)
  have F1 : fri (a + 17) 6 v1 (wr v1 (a + 17 + 2) f1) := fri_wr (by omega)
  obtain ⟨w2, R2, G2⟩ := scr_P R1 w1 (Or.inl rfl) s2.1.1 (exi_fri F1) (show 0 ≤ 20 by decide) (show 0 ≤ 400 by decide)
  have r3 : rw (wr v1 (a + 17 + 2) f1) (a + 11 + 2) 3 = J (g 3) := by rw [rw_wr_ne (by omega)]; exact hgR' 3 (by decide)
  have hK := minZ_B (x := 999) (y := oC t p g - 1)
  unfold F_gc_mostPeriods mpZ
  simp only [k0, grd_pos, (gr67 hR.1).1, Option.bind_some, s1, oc2, b0, b7, bl.1]
  rw [u1]
  simp only [Option.bind_some, g5', n0', r7', n2', grd_pos, gi_x, rw_wr, e3, r3]
  rw [← J_sub, ← J_sub, show sgK t p 6000002 g 3 - g 3 - 1 = oC t p g - 1 from rfl, ma_minJ (by decide) (by omega)]
  simp only [Option.bind_some]
  have G1 : exg a 0 0 S v S1 v1 := exg_exi x1 (by omega) (by decide) (by decide)
  have G1b : exg a 0 0 S1 v1 S1 (wr v1 (a + 17 + 2) f1) := exg_exi (exi_fri F1) (by omega) (by decide) (by decide)
  obtain ⟨K, eK⟩ : ∃ K, K = minZ 999 (oC t p g - 1) := ⟨_, rfl⟩
  rw [← eK] at hK ⊢
  have hm : K ≤ oC t p g - 1 ∧ K ≤ 999 := by
    rw [eK]
    unfold minZ
    split <;> omega
  by_cases y : K < 1
  · rw [if_pos ((J_lt (by omega) (by decide)).mpr y), if_pos y]
    exact ⟨S1, _, rfl, w2, R2, exg_mono (exg_tr G1 G1b) (by decide) (by decide)⟩
  · rw [if_neg (fun z => y ((J_lt (by omega) (by decide)).mp z)), if_neg y, (gr67 R1.1).1]
    simp only [Option.bind_some]
    obtain ⟨S3, v3, p1, p2, R3, w3, x3⟩ := fresh_R (N := N) (by omega) w2 R2 (Or.inl rfl)
    have c0 := p2.1.1.1
    obtain ⟨h', eh⟩ : ∃ h' : Nat → Int, h' = fun j => if j = 2 then K else h j := ⟨_, rfl⟩
    obtain ⟨v4, ev⟩ : ∃ v4, v4 = wr v3 (a + 17) (up (rw v3 (a + 17)) 2 (J K)) := ⟨_, rfl⟩
    obtain ⟨l1, l2, l3, l4⟩ := id p2.1
    have M4 : stM S3 v4 (a + 17) h' c g t p := by
      rw [ev, eh]
      exact ⟨l1, by rw [rw_wr]; exact ag_up l2, by rw [rw_wr_ne (by omega)]; exact l3, sgW_ne l4 (by omega)⟩
    have F4 : fri (a + 17) 6 v3 v4 := by rw [ev]; exact fri_wr (by omega)
    have N4 : msR S3 v4 (a + 17 + 5) (h' 5) M := by
      have := msR_fri p2.2 l1 F4
      rw [eh]
      exact this
    have hh' : hV h' := by
      obtain ⟨v0, v1, v2, v3, v5⟩ := hS.1
      rw [eh]
      exact ⟨v0, v1, by show 1 ≤ K ∧ K ≤ 999; omega, v3, v5⟩
    have h2 : h' 2 = (K.toNat : Nat) := by rw [eh]; show K = _; omega
    obtain ⟨z1, z2, z3⟩ := st_period (G := K.toNat) hN w3 M4 N4 hS.2.1 hg hh' h2
    have ne : oN t p K.toNat g ≠ -1 := (oN_end hg).mpr (by omega)
    have G3 : exg a 0 0 S1 (wr v1 (a + 17 + 2) f1) S3 v3 := exg_exi x3 (by omega) (by decide) (by decide)
    have fin : ∀ {S4 : shp} {v5 : vl} {k l : Nat}, stL S4 (a + 17) → exi (a + 17) 6 k l S3 v3 S4 v5 → k ≤ 1 → l ≤ 7 → PC a (h, c, g, t, p, M) sv ps re ca ch q S v S4 v5 := by
      intro S4 v5 k l hs he hk hl
      obtain ⟨P1, P2, P3⟩ := scr_P R3 w3 (Or.inl rfl) hs he (Nat.le_trans hk (by decide)) (Nat.le_trans hl (by decide))
      have G4 : exg a 1 7 S3 v3 S4 v5 := exg_exi he (by omega) hk hl
      exact ⟨P1, P2, exg_mono (exg_tr (exg_tr (exg_tr G1 G1b) G3) G4) (by decide) (by decide)⟩
    simp only [p1, Option.bind_some, oc2, c0, grd_pos, lt_def, si_wr, (gr67 R3.1).1, ← ev]
    by_cases o : cO t p K.toNat c g = 0
    · obtain ⟨v5, t1, t2⟩ := z2 ne o
      have n30 : ¬ J 3 = J 0 := by decide
      rw [t1, if_pos o]
      simp only [Option.bind_some, n30, if_false]
      exact ⟨S3, v5, rfl, fin l1 (exi_fri (fri_tr F4 t2)) (by decide) (by decide)⟩
    · obtain ⟨S4, v5, t1, t2, t3, t4⟩ := z1 ne o
      rw [t1, if_neg o]
      simp only [Option.bind_some, if_true]
      exact ⟨S4, v5, rfl, fin t2.1 (exi_tr (exi_fri F4) t4) (by decide) (by decide)⟩
-- the model's walk over outputs
def owS (v : vl) (m : Nat) (X c g : Nat → Int) (j : Nat) : Prop := rw v (m + 1) = iz (mk X (oN (mt X) (mp X) j g) (ckK (oN (mt X) (mp X) j g) c) (sgK (mt X) (mp X) (3 * oN (mt X) (mp X) j g + 2) g)) ∧ rw v m 13 = J (cO (mt X) (mp X) j c g)
theorem ow_0 {T : Int} (hN : 7000000 ≤ N) (hl : mdL S m) (hw : rw v (m + 1) = iz (mk X T c g)) (hI : mdI X T c g) :
    (oN (mt X) (mp X) 0 g ≠ -1 → ∃ R f, F_gm_waitsFor N m (J 4) S v = some (J 1, wr v (m + 1) R) ∧ F_gm_beginsNow m S (wr v (m + 1) R) = some (wr (wr v m f) (m + 1) R) ∧ eqX (rw v m) f ∧ owS (wr (wr v m f) (m + 1) R) m X c g 0) ∧
    (oN (mt X) (mp X) 0 g = -1 → ∃ R f, F_gm_waitsFor N m (J 4) S v = some (J 0, wr v (m + 1) R) ∧ F_gm_beginsNow m S (wr v (m + 1) R) = some (wr (wr v m f) (m + 1) R) ∧ eqX (rw v m) f) := by
  have ne1 : m + 1 ≠ m := by omega
  obtain ⟨s1, s2⟩ := gm_waitsForO hN hl hw hI
  refine ⟨fun y => ?_, fun y => ?_⟩
  · have e := gm_beginsNow (v := wr v (m + 1) (iz (mk X (oN (mt X) (mp X) 0 g) (ckK (oN (mt X) (mp X) 0 g) c) (sgK (mt X) (mp X) (3 * oN (mt X) (mp X) 0 g + 2) g)))) hl rw_wr
    rw [rw_wr_ne ne1.symm] at e
    refine ⟨_, bgN (rw v m) (oN (mt X) (mp X) 0 g) (sgK (mt X) (mp X) (3 * oN (mt X) (mp X) 0 g + 2) g 2), s1 _ y oN_0.symm, ?_, eqX_bgN _ _ _, rw_wr, ?_⟩
    · rw [e, wr_comm ne1]
    · rw [rw_wr_ne ne1.symm, rw_wr]
      unfold cO
      rw [Int.sub_self]
      rfl
  · obtain ⟨T', e1, -⟩ := s2 (oN_0.symm.trans y)
    have e := gm_beginsNow (v := wr v (m + 1) (iz (mk X T' (ckK 2000000 c) (sgK (mt X) (mp X) 6000002 g)))) hl rw_wr
    rw [rw_wr_ne ne1.symm] at e
    exact ⟨_, _, e1, by rw [e, wr_comm ne1], eqX_bgN _ _ _⟩
theorem mdI_cO {T : Int} (hI : mdI X T c g) {j : Nat} (h : oN (mt X) (mp X) j g ≠ -1) : 0 ≤ cO (mt X) (mp X) j c g ∧ cO (mt X) (mp X) j c g ≤ 300000 :=
  cO_B (h := c) ⟨hI.2.1, hI.2.2.1, hI.2.2.2.2.2.1⟩ ⟨hI.1, hI.2.2.2.2.2.2.1, hI.2.2.2.2.2.2.2⟩ h
theorem ow_s {T : Int} {j : Nat} (hN : 7000000 ≤ N) (hl : mdL S m) (hI : mdI X T c g) (h4 : oN (mt X) (mp X) j g ≠ -1) (hW : owS v m X c g j) :
    (oN (mt X) (mp X) (j + 1) g ≠ -1 → ∃ f R, F_gm_countsTo N m (J 4) (J 2) S v = some (J 1, wr (wr v m f) (m + 1) R) ∧ eqX (rw v m) f ∧ owS (wr (wr v m f) (m + 1) R) m X c g (j + 1)) ∧
    (oN (mt X) (mp X) (j + 1) g = -1 → ∃ f R, F_gm_countsTo N m (J 4) (J 2) S v = some (J 0, wr (wr v m f) (m + 1) R) ∧ eqX (rw v m) f) := by
  have ne1 : m + 1 ≠ m := by omega
  obtain ⟨hw, hq⟩ := hW
  obtain ⟨⟨u, hJ, q0, q1⟩, hc, -⟩ := id hI
  have hnx := oN_next hJ q0 q1 h4
  have bc : ∀ j : Nat, oN (mt X) (mp X) j g ≠ -1 → 0 ≤ ckK (oN (mt X) (mp X) j g) c 5 ∧ ckK (oN (mt X) (mp X) j g) c 5 ≤ 300000 := fun j hj => by
    obtain ⟨-, i1, i2, -⟩ := mdI_O hI hj
    have := i1.2.2.2.2
    omega
  have b0 := bc 0 (oN_le hJ q0 q1 h4 (Nat.zero_le j)).1
  have bk := bc j h4
  obtain ⟨s1, s2⟩ := gm_countsToO hN hl hw (mdI_O hI h4)
  refine ⟨fun y => ?_, fun y => ?_⟩
  · have bk1 := bc (j + 1) y
    have e := s1 _ _ y hnx hq (by unfold cO; omega)
    obtain ⟨e1, e2⟩ := O_next hI y
    have ec : cO (mt X) (mp X) j c g + (ckK (oN (mt X) (mp X) (j + 1) g) c 5 - ckK (oN (mt X) (mp X) j g) c 5) = cO (mt X) (mp X) (j + 1) c g := by unfold cO; omega
    rw [e1, e2, ec] at e
    refine ⟨_, _, e, eqX_fdC _ _ _ _, rw_wr, ?_⟩
    rw [rw_wr_ne ne1.symm, rw_wr, fdC_13]
  · obtain ⟨T', f', e1, -, e3⟩ := s2 (hnx.trans y)
    exact ⟨f', _, e1, e3⟩
theorem gm_periodsForLoop {T n : Int} (hN : 7000000 ≤ N) (hl : mdL S m) (hI : mdI X T c g) (hn : 1 ≤ n ∧ n ≤ 6) : ∀ (f j : Nat) (v : vl), j ≤ 999 → 999 - j < f → oN (mt X) (mp X) j g ≠ -1 → owS v m X c g j →
    BK m v (wkZ (eO (mt X) (mp X) g) (dP (mt X) (mp X) c g n) (999 - j) (j + 1)) (K_gm_periodsFor_39 N f S v m (J n) (J ((j + 1 : Nat) : Int)))
  | 0, j, v, _, h, _, _ => absurd h (Nat.not_lt_zero _)
  | f + 1, j, v, hj, hf, h4, hW => by
    have n1 : ¬ J 1 = J 0 := by decide
    have ne1 : m + 1 ≠ m := by omega
    show BK m v _ (Y_gm_periodsFor_39 N (K_gm_periodsFor_39 N f S) S v m (J n) (J ((j + 1 : Nat) : Int)))
    unfold Y_gm_periodsFor_39
    by_cases q : j = 999
    · subst q
      rw [if_pos (by decide), grd_true _ hl.1]
      exact BK_bind (BK_back hN hl)
    · obtain ⟨s1, s2⟩ := ow_s hN hl hI h4 hW
      rw [show 999 - j = (999 - (j + 1)) + 1 by omega, wkZ_s, if_neg (show ¬ J 999 < J ((j + 1 : Nat) : Int) from fun z => by have := (J_lt (by decide) (by omega)).mp z; omega), grd_true _ hl.1]
      by_cases y : oN (mt X) (mp X) (j + 1) g = -1
      · obtain ⟨f1, R, t1, t2⟩ := s2 y
        rw [t1, if_neg (eO_0 y)]
        refine BK_wr (R := R) t2 ?_
        simp only [Option.bind_some, if_true]
        exact BK_bind (BK_back hN hl)
      · obtain ⟨f1, R, t1, t2, t3⟩ := s1 y
        have hB := mdI_cO hI y
        have hD := dgZ_B (cO (mt X) (mp X) (j + 1) c g)
        rw [t1, if_pos (eO_1 y)]
        refine BK_wr (R := R) t2 ?_
        simp only [Option.bind_some, n1, if_false, gi_x, t3.2]
        rw [gm_digitsOf (by omega) (by omega)]
        simp only [Option.bind_some]
        by_cases w : n ≤ dgZ (cO (mt X) (mp X) (j + 1) c g)
        · rw [if_neg (show ¬ J (dgZ (cO (mt X) (mp X) (j + 1) c g)) < J n from fun z => by have := (J_lt (by omega) (by omega)).mp z; omega), if_pos (show dP (mt X) (mp X) c g n (j + 1) = true from decide_eq_true w)]
          exact BK_bind (BK_back hN hl)
        · rw [if_pos ((J_lt (by omega) (by omega)).mpr (show dgZ (cO (mt X) (mp X) (j + 1) c g) < n by omega)), if_neg (show ¬ dP (mt X) (mp X) c g n (j + 1) = true from fun z => w (of_decide_eq_true z)), J_s]
          exact gm_periodsForLoop hN hl hI hn f (j + 1) _ (by omega) (by omega) y t3
theorem gm_periodsFor {n : Int} (hN : 7000000 ≤ N) (hR : dR S v m (h, c, g, t, p, M) sv ps re ca ch) (hV : stV h c g t p M) (hn : -2147483648 ≤ n ∧ n < 2147483648) :
    QM (F_gm_periodsFor N m (J n) S v) (rgO 1 6 n (pfZ t p c g n)) (fun v' => mqt m v v' (oThr (rgO 1 6 n (pfZ t p c g n)))) := by
  obtain ⟨hl, h1, -⟩ := hR
  have n1 : ¬ J 1 = J 0 := by decide
  have h9 := (stV_8 hV).1
  unfold F_gm_periodsFor
  rw [grd_true _ hl.1]
  simp only [lt_def, si_th]
  rw [gm_noDigits hl hn]
  unfold rgO
  by_cases z : 1 ≤ n ∧ n ≤ 6
  · rw [if_pos z, if_pos z]
    simp only [Option.bind_some, if_true]
    rw [gm_thinks (by omega) hl]
    simp only [Option.bind_some]
    obtain ⟨X, x0, x5, x6, x7, hag, hI⟩ := thinkX (v := th v m 0) (m := m) (h := h) (c := c) (g := g) (t := t) (p := p) (M := M) (th_rowM h1) hV
    obtain ⟨w1, w2⟩ := ow_0 hN hl x0 hI
    have ed : dP t p c g n = dP (mt X) (mp X) c g n := by
      funext i
      unfold dP
      rw [cO_congr h9 hag]
    have ee : eO t p g = eO (mt X) (mp X) g := by
      funext i
      unfold eO
      rw [oN_congr h9 hag]
    have main : BK m (wr (th v m 0) (m + 3) (cpR (rw (th v m 0) (m + 1)) (rw (th v m 0) (m + 3)) 0 0 199)) (pfZ t p c g n) ((F_gm_waitsFor N m (J 4) S (wr (th v m 0) (m + 3) (cpR (rw (th v m 0) (m + 1)) (rw (th v m 0) (m + 3)) 0 0 199))).bind fun (x6, w7) => (if x6 = (J 0) then (F_gm_back N m (J (-1)) S w7).bind fun (x8, w9) => some ((x8, w9)) else (F_gm_beginsNow m S w7).bind fun w10 => K_gm_periodsFor_39 N N S w10 m (J n) (J 1))) := by
      unfold pfZ
      rw [ed, ee, oN_congr h9 hag]
      by_cases y : oN (mt X) (mp X) 0 g = -1
      · obtain ⟨R, f, e1, e2, e3⟩ := w2 y
        rw [e1, if_pos y]
        simp only [Option.bind_some, if_true]
        exact BK_wr1 (BK_bind (BK_back hN hl))
      · obtain ⟨R, f, e1, e2, e3, e4⟩ := w1 y
        rw [e1, if_neg y]
        simp only [Option.bind_some, n1, if_false]
        rw [e2]
        exact BK_wr e3 (gm_periodsForLoop hN hl hI z N 0 _ (by decide) (by omega) y e4)
    obtain ⟨v', e1, e2⟩ := BK_mq main
    exact ⟨v', e1, mqt_mq e2⟩
  · rw [if_neg z, if_neg z]
    simp only [Option.bind_some, n1, if_false]
    rw [th_th]
    exact ⟨_, rfl, mqt_th⟩
-- most periods
theorem lgZ_n {e : Nat → Bool} {n : Int} (he : ∀ i : Nat, e i = true ↔ (i : Int) + 1 ≤ n) : ∀ (f j : Nat), (j : Int) + 1 ≤ n → lgZ e f (j + 1) (j : Int) = minZ ((j : Int) + f) (n - 1)
  | 0, j, h => by
    show (j : Int) = minZ ((j : Int) + ((0 : Nat) : Int)) (n - 1)
    unfold minZ
    split <;> omega
  | f + 1, j, h => by
    rw [lgZ_s]
    by_cases q : (((j + 1 : Nat)) : Int) + 1 ≤ n
    · rw [if_pos ((he (j + 1)).mpr q), lgZ_n he f (j + 1) q]
      unfold minZ
      split <;> split <;> omega
    · rw [if_neg (fun z => q ((he (j + 1)).mp z))]
      unfold minZ
      split <;> omega
def mpE (t p c g : Nat → Int) (j : Int) : Int := if cO t p j.toNat c g = 0 then -1 else j
theorem gm_mostEnd {v : vl} {k : Int} (hN : 7000000 ≤ N) (hl : mdL S m) (hk : 0 ≤ k ∧ k ≤ 999) : BK m v (if k = 0 then -1 else k) (if J k = (J 0) then grd (kin S m = some (0, 6)) <| (F_gm_back N m (J (-1)) S v).bind fun (x8, w9) => some ((x8, w9)) else grd (kin S m = some (0, 6)) <| (F_gm_back N m (J k) S v).bind fun (x11, w12) => some ((x11, w12))) := gm_longestGateEnd hN hl (by omega)
theorem gm_mostLoop {T : Int} (hN : 7000000 ≤ N) (hl : mdL S m) (hI : mdI X T c g) : ∀ (f j : Nat) (v : vl), j ≤ 999 → 999 - j + 1 < f → oN (mt X) (mp X) j g ≠ -1 → owS v m X c g j →
    BK m v (mpE (mt X) (mp X) c g (lgZ (eO (mt X) (mp X) g) (999 - j) (j + 1) (j : Int))) (K_gm_mostPeriods_23 N f S v m (J (if cO (mt X) (mp X) j c g = 0 then 0 else (j : Int))) (J (j : Int)) (J 1))
  | 0, j, v, _, h, _, _ => absurd h (Nat.not_lt_zero _)
  | 1, j, v, _, h, _, _ => absurd h (by omega)
  | f + 2, j, v, hj, hf, h4, hW => by
    have n1 : ¬ J 1 = J 0 := by decide
    have ne1 : m + 1 ≠ m := by omega
    obtain ⟨⟨u, hJ, q0, q1⟩, hc, -⟩ := id hI
    have hk : 0 ≤ (if cO (mt X) (mp X) j c g = 0 then 0 else (j : Int)) ∧ (if cO (mt X) (mp X) j c g = 0 then 0 else (j : Int)) ≤ 999 := by split <;> omega
    have c00 : cO (mt X) (mp X) 0 c g = 0 := Int.sub_self _
    have eE : mpE (mt X) (mp X) c g (j : Int) = if (if cO (mt X) (mp X) j c g = 0 then 0 else (j : Int)) = 0 then -1 else (if cO (mt X) (mp X) j c g = 0 then 0 else (j : Int)) := by
      unfold mpE
      show (if cO (mt X) (mp X) j c g = 0 then -1 else (j : Int)) = _
      by_cases w : cO (mt X) (mp X) j c g = 0
      · rw [if_pos w, if_pos w, if_pos rfl]
      · rw [if_neg w, if_neg w, if_neg (fun z => w (by rw [show j = 0 by omega]; exact c00))]
    show BK m v _ (Y_gm_mostPeriods_23 N (K_gm_mostPeriods_23 N (f + 1) S) S v m _ (J (j : Int)) (J 1))
    unfold Y_gm_mostPeriods_23
    rw [if_neg n1]
    by_cases q : j = 999
    · rw [if_neg (show ¬ J (j : Int) < J 999 by rw [q]; decide), show 999 - j = 0 by omega]
      have e0 : lgZ (eO (mt X) (mp X) g) 0 (j + 1) (j : Int) = (j : Int) := rfl
      rw [e0, eE]
      exact gm_mostEnd hN hl hk
    · obtain ⟨s1, s2⟩ := ow_s hN hl hI h4 hW
      rw [show 999 - j = (999 - (j + 1)) + 1 by omega, lgZ_s, if_pos (show J (j : Int) < J 999 from (J_lt (by omega) (by decide)).mpr (by omega)), grd_true _ hl.1]
      by_cases y : oN (mt X) (mp X) (j + 1) g = -1
      · obtain ⟨f1, R, t1, t2⟩ := s2 y
        rw [t1, if_neg (eO_0 y), eE]
        refine BK_wr (R := R) t2 ?_
        simp only [Option.bind_some, if_true]
        show BK m _ _ (Y_gm_mostPeriods_23 N (K_gm_mostPeriods_23 N f S) S _ m _ _ (J 0))
        unfold Y_gm_mostPeriods_23
        rw [if_pos rfl]
        exact gm_mostEnd hN hl hk
      · obtain ⟨f1, R, t1, t2, t3⟩ := s1 y
        have hB := mdI_cO hI y
        have := gm_mostLoop hN hl hI (f + 1) (j + 1) _ (by omega) (by omega) y t3
        rw [t1, if_pos (eO_1 y)]
        refine BK_wr (R := R) t2 ?_
        simp only [Option.bind_some, n1, if_false, gi_x, t3.2]
        rw [J_s]
        by_cases w : cO (mt X) (mp X) (j + 1) c g = 0
        · have w0 : cO (mt X) (mp X) j c g = 0 := by
            have hB0 := mdI_cO hI h4
            obtain ⟨-, z2⟩ := oN_lt hJ q0 q1 y
            have := (mdI_ckK (mdI_O hI h4) (show oN (mt X) (mp X) (j + 1) g ≤ 2100000 by have := (oN_at hJ q0 q1 y).2.2.2.2.2.1; omega)).2
            rw [ckK_K hc (by omega)] at this
            unfold cO at w hB0 ⊢
            omega
          rw [if_neg (show ¬ J 0 < J (cO (mt X) (mp X) (j + 1) c g) by rw [w]; decide), if_pos w0]
          rw [if_pos w] at this
          exact this
        · rw [if_pos (show J 0 < J (cO (mt X) (mp X) (j + 1) c g) from (J_lt (by decide) (by omega)).mpr (by omega))]
          rw [if_neg w] at this
          exact this
theorem gm_mostPeriods (hN : 7000000 ≤ N) (hR : dR S v m (h, c, g, t, p, M) sv ps re ca ch) (hV : stV h c g t p M) :
    QM (F_gm_mostPeriods N m S v) (.inr (mpZ t p c g)) (fun v' => mqt m v v' 0) := by
  obtain ⟨hl, h1, -⟩ := hR
  have h9 := (stV_8 hV).1
  have hB := oC_B hV.2.2.1
  unfold F_gm_mostPeriods
  rw [grd_true _ hl.1]
  simp only [lt_def, si_th]
  rw [gm_thinks (by omega) hl]
  simp only [Option.bind_some]
  obtain ⟨X, x0, x5, x6, x7, hag, hI⟩ := thinkX (v := th v m 0) (m := m) (h := h) (c := c) (g := g) (t := t) (p := p) (M := M) (th_rowM h1) hV
  obtain ⟨w1, w2⟩ := ow_0 hN hl x0 hI
  have main : BK m (wr (th v m 0) (m + 3) (cpR (rw (th v m 0) (m + 1)) (rw (th v m 0) (m + 3)) 0 0 199)) (mpZ t p c g) ((F_gm_waitsFor N m (J 4) S (wr (th v m 0) (m + 3) (cpR (rw (th v m 0) (m + 1)) (rw (th v m 0) (m + 3)) 0 0 199))).bind fun (x4, w5) => (F_gm_beginsNow m S w5).bind fun w6 => K_gm_mostPeriods_23 N N S w6 m (J 0) (J 0) x4) := by
    have o0 := oN_end (i := 0) hV.2.2.1
    by_cases y : oN t p 0 g = -1
    · obtain ⟨R, f, e1, e2, e3⟩ := w2 (by rw [← oN_congr h9 hag]; exact y)
      have hlt : minZ 999 (oC t p g - 1) < 1 := by
        have : ¬ ((0 : Nat) : Int) + 1 ≤ oC t p g := fun z => (o0.mpr z) y
        unfold minZ
        split <;> omega
      unfold mpZ
      rw [e1, if_pos hlt]
      simp only [Option.bind_some]
      rw [e2]
      refine BK_wr (R := R) e3 ?_
      obtain ⟨n, rfl⟩ : ∃ n, N = n + 1 := ⟨N - 1, by omega⟩
      show BK m _ _ (Y_gm_mostPeriods_23 (n + 1) (K_gm_mostPeriods_23 (n + 1) n S) S _ m (J 0) (J 0) (J 0))
      unfold Y_gm_mostPeriods_23
      rw [if_pos rfl]
      exact gm_mostEnd (k := 0) hN hl (by decide)
    · have y' : oN (mt X) (mp X) 0 g ≠ -1 := by rw [← oN_congr h9 hag]; exact y
      obtain ⟨R, f, e1, e2, e3, e4⟩ := w1 y'
      have c00 : cO (mt X) (mp X) 0 c g = 0 := Int.sub_self _
      have := gm_mostLoop hN hl hI N 0 _ (by decide) (by omega) y' e4
      rw [if_pos c00] at this
      have ee : eO (mt X) (mp X) g = eO t p g := by
        funext i
        unfold eO
        rw [oN_congr h9 hag]
      have el := lgZ_n (e := eO t p g) (n := oC t p g) (fun i => ⟨fun z => (oN_end hV.2.2.1).mp (of_decide_eq_true z), fun z => decide_eq_true ((oN_end hV.2.2.1).mpr z)⟩) 999 0 (o0.mp y)
      have em : minZ (((0 : Nat) : Int) + ((999 : Nat) : Int)) (oC t p g - 1) = minZ 999 (oC t p g - 1) := rfl
      have e5 : mpE (mt X) (mp X) c g (minZ 999 (oC t p g - 1)) = mpZ t p c g := by
        unfold mpE mpZ
        rw [← cO_congr h9 hag]
        by_cases z : minZ 999 (oC t p g - 1) < 1
        · have : minZ 999 (oC t p g - 1) = 0 := by
            have := o0.mp y
            unfold minZ at z ⊢
            split at z <;> omega
          rw [if_pos z, this]
          exact if_pos (Int.sub_self _)
        · rw [if_neg z]
      rw [e1]
      simp only [Option.bind_some]
      rw [e2]
      rw [ee, Nat.sub_zero, el, em, e5] at this
      exact BK_wr e3 this
  obtain ⟨v', e1, e2⟩ := BK_mq main
  exact ⟨v', e1, mqt_mq e2⟩
end PERIODS
