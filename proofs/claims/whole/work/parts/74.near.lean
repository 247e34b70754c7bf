/-! The gate near a period's value. -/
section NEAR
variable {S : shp} {v : vl} {a b m N q : Nat} {h c g t p X : Nat → Int} {M : Nat → Nat → Int} {sv : Option sta} {ps : List sta} {re ca ch : Int}
theorem gO_val {i : Nat} {k : Int} (hV' : stV h c g t p M) (hi : 1 ≤ i ∧ i ≤ 9999) (hk : -99 ≤ k ∧ k ≤ 99) (h4 : (tkN i c) 4 ≤ 2000000) : 0 ≤ valZ (gO t p i c g) i (c 0) k (g 4) ∧ valZ (gO t p i c g) i (c 0) k (g 4) ≤ 2000000000 := by
  obtain ⟨⟨v0, v1, v2, v3, v5⟩, hc, hg, hu, hT, -⟩ := hV'
  have := gM_V (h := fun j => if j = 1 then (i : Int) else if j = 3 then k else h j) (c := c) (g := g) (t := t) (p := p) ⟨v0, by show 1 ≤ (i : Int) ∧ (i : Int) ≤ 9999; omega, v2, hk, v5⟩ hc hg hu hT (gW_0.mpr h4)
  exact this.2.2.2.2.1
theorem absZ_B {z : Int} (h : -2147483647 ≤ z ∧ z ≤ 2147483647) : 0 ≤ absZ z ∧ absZ z ≤ 2147483647 := by
  unfold absZ
  split <;> omega
def nF (t p c g : Nat → Int) (k lim tgt : Int) (i : Nat) : Bool := decide (absZ (valZ (gO t p i c g) i (c 0) k (g 4) - tgt) ≤ lim)
def gnZ (h c g t p : Nat → Int) (lim : Int) : Int := if pW h c g t p = 0 then (if c 4 ≤ 2000000 then wkZ (eB c) (nF t p c g (h 3) lim (pM h c g t p 4)) 9999 1 else -1) else -1
theorem gc_gateNearLoop {lim tgt : Int} (hN : 7000000 ≤ N) (ka : kin S a = some (0, 5)) (ga : gr S a 6 = some b) (hV : stV h c g t p M) (hl : 0 ≤ lim ∧ lim ≤ 2000000) (ht : 0 ≤ tgt ∧ tgt ≤ 2000000000) : ∀ (f j : Nat) (v : vl), j ≤ 9999 → 9999 - j < f → (tkN j c) 4 ≤ 2000000 → wkS S v b h c g t p j →
    ∃ v', K_gc_gateNear_60 N f S v a (J lim) (J tgt) (J (gG t p 0 c g 3)) (J ((j + 1 : Nat) : Int)) = some (.inr (J (wkZ (eB c) (nF t p c g (h 3) lim tgt) (9999 - j) (j + 1)), S, v')) ∧ fri b 6 v v'
  | 0, j, v, _, h, _, _ => absurd h (Nat.not_lt_zero _)
  | f + 1, j, v, hj, hf, h4, hW => by
    have n1 : ¬ J 1 = J 0 := by decide
    have hc := hV.2.1
    have hg := hV.2.2.1
    show ∃ v', Y_gc_gateNear_60 N (K_gc_gateNear_60 N f) S v a (J lim) (J tgt) (J (gG t p 0 c g 3)) (J ((j + 1 : Nat) : Int)) = _ ∧ _
    unfold Y_gc_gateNear_60
    by_cases q : j = 9999
    · subst q
      rw [if_pos (by decide)]
      exact ⟨v, rfl, fri_refl _ _ _⟩
    · obtain ⟨k0, -⟩ := wk_3 hW
      obtain ⟨s1, s2⟩ := wk_s hN hc hg h4 hW
      rw [if_neg (fun z => by have := (J_lt (by decide) (by omega)).mp z; omega), grd_true _ ka, ga]
      simp only [Option.bind_some]
      rw [grd_true _ k0, show 9999 - j = (9999 - (j + 1)) + 1 by omega, wkZ_s]
      by_cases y : (tkN (j + 1) c) 4 ≤ 2000000
      · obtain ⟨v1, t1, t2, t3⟩ := s1 y
        obtain ⟨-, r7, k2, r3, rb⟩ := wk_3 t2
        obtain ⟨-, g4, -, o1, o2⟩ := gG_V hc.1 hg y
        obtain ⟨h', hM', -⟩ := id t2
        have hk3 := hV.1.2.2.2.1
        have eg : gG t p (j + 1) c g 3 - gG t p 0 c g 3 = gO t p (j + 1) c g := rfl
        have c0 : (tkN (j + 1 + 1) c) 0 = c 0 := (tkN_inv hc.1 (j + 1 + 1)).2.2.2.2.1
        have hP := stV_P hV
        have hB := gO_val (i := j + 1) (k := h 3) hV (by omega) hk3 y
        have hA := absZ_B (z := valZ (gO t p (j + 1) c g) ((j + 1 : Nat) : Int) (c 0) (h 3) (g 4) - tgt) (by omega)
        have V := st_valueOf (S := S) (v := v1) (o := gO t p (j + 1) c g) (n := ((j + 1 : Nat) : Int)) (k := h 3) hM' (by rw [c0]; exact hc.1.1) (by rw [g4]; exact hP) ⟨o1, o2⟩ (by omega) hk3
        rw [c0, g4] at V
        rw [t1, if_pos (eB_1 y)]
        simp only [Option.bind_some, n1, if_false, r7, k2, grd_pos, gi_x, r3, rb]
        rw [← J_sub, eg, V]
        simp only [Option.bind_some]
        rw [← J_sub, ma_abs (z := valZ (gO t p (j + 1) c g) ((j + 1 : Nat) : Int) (c 0) (h 3) (g 4) - tgt) (by omega)]
        simp only [Option.bind_some]
        by_cases w : absZ (valZ (gO t p (j + 1) c g) ((j + 1 : Nat) : Int) (c 0) (h 3) (g 4) - tgt) ≤ lim
        · rw [if_neg (fun z => by have := (J_lt (by omega) (by omega)).mp z; omega), if_pos (show nF t p c g (h 3) lim tgt (j + 1) = true from decide_eq_true w)]
          exact ⟨v1, rfl, t3⟩
        · rw [if_pos ((J_lt (by omega) (by omega)).mpr (by omega)), if_neg (show ¬ nF t p c g (h 3) lim tgt (j + 1) = true from fun z => w (of_decide_eq_true z)), J_s]
          obtain ⟨v2, p1, p2⟩ := gc_gateNearLoop hN ka ga hV hl ht f (j + 1) v1 (by omega) (by omega) y t2
          exact ⟨v2, p1, fri_tr t3 p2⟩
      · rw [s2 (by omega), if_neg (eB_0 y)]
        simp only [Option.bind_some, if_true]
        exact ⟨v, rfl, fri_refl _ _ _⟩
theorem gc_gateNear {n : Int} (hN : 7000000 ≤ N) (hw : wfS S) (hR : cR S v a (h, c, g, t, p, M) sv ps re ca ch q) (hn : -2147483648 ≤ n ∧ n < 2147483648) :
    QC (F_gc_gateNear N a (J n) S v) (fun _ => 0) (rgO 0 2000000 n (gnZ h c g t p n)) (PC a (h, c, g, t, p, M) sv ps re ca ch q S v) := by
  have n1 : ¬ J 1 = J 0 := by decide
  obtain ⟨k0, g5, n0, -⟩ := cR_now hR
  unfold F_gc_gateNear rgO
  rw [gc_within hn (by decide) (by decide)]
  by_cases z : 0 ≤ n ∧ n ≤ 2000000
  · obtain ⟨S1, v1, s1, s2, R1, w1, x1⟩ := fresh_R (N := N) (by omega) hw hR (Or.inr rfl)
    have hV := cR_V hR
    obtain ⟨y1, y2, y3⟩ := st_period (G := (h 2).toNat) hN w1 s2.1 s2.2 hV.2.1 hV.2.2.1 hV.1 (by show h 2 = _; have := hV.1.2.2.1; omega)
    have b0 := s2.1.1.1
    rw [if_pos z, if_pos z, bx_r]
    simp only [k0, grd_pos, (gr67 hR.1).2.1, Option.bind_some, s1, oc2, b0]
    unfold gnZ
    by_cases o : pW h c g t p = 0
    · obtain ⟨o1, o2⟩ := pW_0.mp o
      obtain ⟨S2, v2, t1, t2, t3, t4⟩ := y1 o1 o2
      have x2 := exi_tr x1 t4
      have pV := pM_V hV.1 hV.2.1 hV.2.2.1 o
      obtain ⟨w2, R2, G2⟩ := scr_P (k := 1) (l := 7) hR hw (Or.inr rfl) t2.1 x2 (by decide) (by decide)
      rw [t1, if_pos o]
      simp only [Option.bind_some, if_true, (gr67 R2.1).1]
      obtain ⟨S3, v3, u1, u2, R3, w3, x3⟩ := fresh_R (N := N) (by omega) w2 R2 (Or.inl rfl)
      have e23 : stM S3 v3 (a + 23) (hG h (oN t p (h 2).toNat g)) (ckK (oN t p (h 2).toNat g) c) (sgK t p (3 * oN t p (h 2).toNat g + 2) g) t p := stM_exi t2 w2 (by omega) x3
      have m23 : msR S3 v3 (a + 23 + 5) (kpN (h 5)) (kpM (h 5) M (pM h c g t p)) := msR_exi t3 (gcL_st R2.1 (by unfold isB; omega)) w2 t2.1.2.2.2.2.2.2 (by omega) x3
      obtain ⟨d1, d2⟩ := wk_0 hN u2.1 hV.2.1 hV.2.2.1
      have c0 := u2.1.1.1
      have G1 : exg a 1 7 S v S2 v2 := exg_exi x2 (by omega) (by decide) (by decide)
      have G3 : exg a 0 0 S2 v2 S3 v3 := exg_exi x3 (by omega) (by decide) (by decide)
      have fin : ∀ {v4 : vl}, fri (a + 17) 6 v3 v4 → PC a (h, c, g, t, p, M) sv ps re ca ch q S v S3 v4 := by
        intro v4 he
        obtain ⟨P1, P2, P3⟩ := scr_P R3 w3 (Or.inl rfl) u2.1.1 (exi_fri he) (by decide) (by decide)
        have G4 : exg a 0 0 S3 v3 S3 v4 := exg_exi (exi_fri he) (by omega) (by decide) (by decide)
        exact ⟨P1, P2, exg_mono (exg_tr (exg_tr G1 G3) G4) (by decide) (by decide)⟩
      simp only [u1, Option.bind_some, oc2, c0, grd_pos]
      by_cases y : c 4 ≤ 2000000
      · obtain ⟨v4, q1, q2, q3⟩ := d1 y
        obtain ⟨-, r7, k2, r3, -⟩ := wk_3 q2
        have P4 := fin q3
        have f23 : stM S3 v4 (a + 23) (hG h (oN t p (h 2).toNat g)) (ckK (oN t p (h 2).toNat g) c) (sgK t p (3 * oN t p (h 2).toNat g + 2) g) t p := stM_exi e23 w3 (by omega) (exi_fri q3)
        have l23 : msR S3 v4 (a + 23 + 5) (kpN (h 5)) (kpM (h 5) M (pM h c g t p)) := msR_exi m23 (gcL_st R3.1 (by unfold isB; omega)) w3 e23.1.2.2.2.2.2.2 (by omega) (exi_fri q3)
        have L2 : _ = some (J (mN (pM h c g t p) 4)) := st_latest_kp (w := 4) (h' := h) (show 100 ≤ N by omega) f23.1 (f23.2.1 5 (by decide)) hV.1.2.2.2.2 l23 hV.2.2.2.2.2 pV (by decide)
        have m4 : ∀ z : Nat → Int, mN z 4 = z 4 := fun z => rfl
        have hb : 0 ≤ pM h c g t p 4 ∧ pM h c g t p 4 ≤ 2000000000 := pV.2.2.2.2.1
        have n3 := (cR_now P4.2.1).1
        obtain ⟨v5, p1, p2⟩ := gc_gateNearLoop (lim := n) (tgt := pM h c g t p 4) hN n3 (gr67 P4.2.1.1).1 hV z hb N 0 v4 (by decide) (by omega) y q2
        rw [q1, if_pos y]
        simp only [Option.bind_some, n1, if_false, (gr67 P4.2.1.1).2.1, f23.1.1, grd_pos]
        rw [L2]
        simp only [Option.bind_some, (gr67 P4.2.1.1).1, c0, r7, k2, grd_pos, gi_x, r3]
        rw [m4]
        exact ⟨S3, v5, p1, fin (fri_tr q3 p2)⟩
      · have q1 := d2 (show 2000000 < c 4 by omega)
        rw [q1, if_neg y]
        simp only [Option.bind_some, if_true]
        exact ⟨S3, v3, rfl, fin (fri_refl _ _ _)⟩
    · rw [if_neg o]
      have n30 : ¬ J 3 = J 0 := by decide
      by_cases o1 : oN t p (h 2).toNat g = -1
      · have t1 := y3 o1
        have nn : ¬ (if sgK t p 6000002 g 0 = 0 then J 2 else J 1) = J 0 := by split <;> decide
        rw [t1]
        simp only [Option.bind_some]
        rw [if_neg nn]
        exact ⟨S1, v1, rfl, scr_P hR hw (Or.inr rfl) s2.1.1 x1 (by decide) (by decide)⟩
      · by_cases o2 : cO t p (h 2).toNat c g = 0
        · obtain ⟨v2, t1, t2⟩ := y2 o1 o2
          rw [t1]
          simp only [Option.bind_some, n30, if_false]
          exact ⟨S1, v2, rfl, scr_P hR hw (Or.inr rfl) s2.1.1 (exi_tr x1 (exi_fri t2)) (by decide) (by decide)⟩
        · exact absurd (pW_0.mpr ⟨o1, o2⟩) o
  · rw [if_neg z, if_neg z, bx_l]
    rfl
theorem gm_gateNearLoop {T lim tgt : Int} (hN : 7000000 ≤ N) (hl : mdL S m) (hI : mdI X T c g) (hL : 0 ≤ lim ∧ lim ≤ 2000000) (ht : 0 ≤ tgt ∧ tgt ≤ 2000000000) (h7 : -99 ≤ X 7 ∧ X 7 ≤ 99) (hB : ∀ i : Nat, 1 ≤ i → i ≤ 9999 → (tkN i c) 4 ≤ 2000000 → 0 ≤ valZ (gO (mt X) (mp X) i c g) i (c 0) (X 7) (g 4) ∧ valZ (gO (mt X) (mp X) i c g) i (c 0) (X 7) (g 4) ≤ 2000000000) : ∀ (f j : Nat) (v : vl), j ≤ 9999 → 9999 - j < f → (tkN j c) 4 ≤ 2000000 → mwS v m X c g j →
    BK m v (wkZ (eB c) (nF (mt X) (mp X) c g (X 7) lim tgt) (9999 - j) (j + 1)) (K_gm_gateNear_68 N f S v m (J lim) (J tgt) (J ((j + 1 : Nat) : Int)))
  | 0, j, v, _, h, _, _ => absurd h (Nat.not_lt_zero _)
  | f + 1, j, v, hj, hf, h4, hW => by
    have n1 : ¬ J 1 = J 0 := by decide
    have ne1 : m + 1 ≠ m := by omega
    show BK m v _ (Y_gm_gateNear_68 N (K_gm_gateNear_68 N f S) S v m (J lim) (J tgt) (J ((j + 1 : Nat) : Int)))
    unfold Y_gm_gateNear_68
    by_cases q : j = 9999
    · subst q
      rw [if_pos (by decide), grd_true _ hl.1]
      exact BK_bind (BK_back hN hl)
    · obtain ⟨s1, s2⟩ := mw_s hN hl hI h4 hW
      rw [show 9999 - j = (9999 - (j + 1)) + 1 by omega, wkZ_s, if_neg (show ¬ J 9999 < J ((j + 1 : Nat) : Int) from fun z => by have := (J_lt (by decide) (by omega)).mp z; omega), grd_true _ hl.1]
      by_cases y : (tkN (j + 1) c) 4 ≤ 2000000
      · obtain ⟨f1, R, t1, t2, t3⟩ := s1 y
        obtain ⟨⟨u, hJ, q0, q1⟩, hc, hc4, -⟩ := id hI
        have hB1 := hB (j + 1) (by omega) (by omega) y
        have hA := absZ_B (z := valZ (gO (mt X) (mp X) (j + 1) c g) ((j + 1 : Nat) : Int) (c 0) (X 7) (g 4) - tgt) (by omega)
        obtain ⟨-, g4, -, o1, o2⟩ := gG_V hc ⟨⟨u, hJ, q0, q1⟩, hI.2.2.2.2.2.2.1, hI.2.2.2.2.2.2.2⟩ y
        have eg : gG (mt X) (mp X) (j + 1) c g 3 - gG (mt X) (mp X) 0 c g 3 = gO (mt X) (mp X) (j + 1) c g := rfl
        have c0 : (tkN (j + 1 + 1) c) 0 = c 0 := (tkN_inv hc (j + 1 + 1)).2.2.2.2.1
        have hP : 1 ≤ g 4 ∧ g 4 ≤ 16 := hJ.1.2.2.2.2.1
        have ra : rw (wr (wr v m f1) (m + 1) R) (m + 1) 1 = J (c 0) := by rw [t3.1]; show J ((tkN (j + 1 + 1) c) 0) = _; rw [c0]
        have rb : rw (wr (wr v m f1) (m + 1) R) (m + 1) 4 = J (g 4) := by rw [t3.1]; show J (gG (mt X) (mp X) (j + 1) c g 4) = _; rw [g4]
        have rc : rw (wr (wr v m f1) (m + 1) R) (m + 1) 7 = J (X 7) := by rw [t3.1]; rfl
        have V := gm_gateValue (S := S) (o := gO (mt X) (mp X) (j + 1) c g) (n := ((j + 1 : Nat) : Int)) (k := X 7) hl ra rb hc.1 hP ⟨o1, o2⟩ (by omega) h7
        rw [t1, if_pos (eB_1 y)]
        refine BK_wr (R := R) t2 ?_
        simp only [Option.bind_some, n1, if_false, hl.2.1, hl.2.2.1, grd_pos, gi_x, t3.2, rc]
        rw [eg, V]
        simp only [Option.bind_some]
        rw [← J_sub, ma_abs (z := valZ (gO (mt X) (mp X) (j + 1) c g) ((j + 1 : Nat) : Int) (c 0) (X 7) (g 4) - tgt) (by omega)]
        simp only [Option.bind_some]
        by_cases w : absZ (valZ (gO (mt X) (mp X) (j + 1) c g) ((j + 1 : Nat) : Int) (c 0) (X 7) (g 4) - tgt) ≤ lim
        · rw [if_neg (show ¬ J lim < J (absZ (valZ (gO (mt X) (mp X) (j + 1) c g) ((j + 1 : Nat) : Int) (c 0) (X 7) (g 4) - tgt)) from fun z => by have := (J_lt (by omega) (by omega)).mp z; omega), if_pos (show nF (mt X) (mp X) c g (X 7) lim tgt (j + 1) = true from decide_eq_true w)]
          exact BK_bind (BK_back hN hl)
        · rw [if_pos ((J_lt (by omega) (by omega)).mpr (show lim < absZ (valZ (gO (mt X) (mp X) (j + 1) c g) ((j + 1 : Nat) : Int) (c 0) (X 7) (g 4) - tgt) by omega)), if_neg (show ¬ nF (mt X) (mp X) c g (X 7) lim tgt (j + 1) = true from fun z => w (of_decide_eq_true z)), J_s]
          exact gm_gateNearLoop hN hl hI hL ht h7 hB f (j + 1) _ (by omega) (by omega) y t3
      · obtain ⟨f1, R, t1, t2⟩ := s2 (by omega)
        rw [t1, if_neg (eB_0 y)]
        refine BK_wr (R := R) t2 ?_
        simp only [Option.bind_some, if_true]
        exact BK_bind (BK_back hN hl)
theorem gm_gateNear {n : Int} (hN : 7000000 ≤ N) (hR : dR S v m (h, c, g, t, p, M) sv ps re ca ch) (hV : stV h c g t p M) (hn : -2147483648 ≤ n ∧ n < 2147483648) :
    QM (F_gm_gateNear N m (J n) S v) (rgO 0 2000000 n (gnZ h c g t p n)) (fun v' => mqt m v v' (oThr (rgO 0 2000000 n (gnZ h c g t p n)))) := by
  obtain ⟨hl, h1, -⟩ := hR
  have n1 : ¬ J 1 = J 0 := by decide
  have h9 := (stV_8 hV).1
  unfold F_gm_gateNear
  rw [grd_true _ hl.1]
  simp only [lt_def, si_th]
  rw [gm_inRange hn (by decide) (by decide)]
  simp only [Option.bind_some]
  unfold rgO
  by_cases z : 0 ≤ n ∧ n ≤ 2000000
  · obtain ⟨v1, e1, m1⟩ := (gm_foretold (v := th v m 0) (x := 4) (h := h) (c := c) (g := g) (t := t) (p := p) (M := M) hN hl (th_rowM h1) hV (by decide)).2
    have R1 : rowM (rw v1 (m + 1)) h c g t p M := rowM_ag (th_rowM h1) (stV_8 hV).2.2 hV.1.2.2.2.2.2 m1.2.2.2
    rw [if_pos z, if_neg n1, if_pos z]
    unfold K_gm_gateNear_21
    rw [grd_true _ hl.1, gm_fails0]
    simp only [Option.bind_some, if_true]
    rw [grd_true _ hl.1, e1]
    simp only [Option.bind_some]
    have m4 : ∀ z : Nat → Int, mN z 4 = z 4 := fun z => rfl
    unfold fP gnZ
    by_cases o : pW h c g t p = 0
    · have pV := pM_V hV.1 hV.2.1 hV.2.2.1 o
      have hb : 0 ≤ pM h c g t p 4 ∧ pM h c g t p 4 ≤ 2000000000 := pV.2.2.2.2.1
      rw [if_pos o, m4, if_pos o, if_neg (show ¬ J (pM h c g t p 4) = J (-1) from fun z => by have := (J_eq (by omega) (by decide)).mp z; omega), gm_thinks (by omega) hl]
      simp only [Option.bind_some]
      obtain ⟨X, x0, x5, x6, x7, hag, hI⟩ := thinkX (v := v1) (m := m) (h := h) (c := c) (g := g) (t := t) (p := p) (M := M) R1 hV
      obtain ⟨w1, w2⟩ := mw_0 hN hl x0 hI
      have ed : nF t p c g (h 3) n (pM h c g t p 4) = nF (mt X) (mp X) c g (X 7) n (pM h c g t p 4) := by
        funext i
        unfold nF
        rw [gO_congr h9 hag, x7]
      have hB : ∀ i : Nat, 1 ≤ i → i ≤ 9999 → (tkN i c) 4 ≤ 2000000 → 0 ≤ valZ (gO (mt X) (mp X) i c g) i (c 0) (X 7) (g 4) ∧ valZ (gO (mt X) (mp X) i c g) i (c 0) (X 7) (g 4) ≤ 2000000000 := fun i i1 i2 i4 => by
        rw [← gO_congr h9 hag, x7]
        exact gO_val hV ⟨i1, i2⟩ hV.1.2.2.2.1 i4
      have main : BK m (wr v1 (m + 3) (cpR (rw v1 (m + 1)) (rw v1 (m + 3)) 0 0 199)) (if c 4 ≤ 2000000 then wkZ (eB c) (nF t p c g (h 3) n (pM h c g t p 4)) 9999 1 else -1) ((F_gm_waitsFor N m (J 2) S (wr v1 (m + 3) (cpR (rw v1 (m + 1)) (rw v1 (m + 3)) 0 0 199))).bind fun (x11, w12) => (if x11 = (J 0) then (F_gm_back N m (J (-1)) S w12).bind fun (x13, w14) => some ((x13, w14)) else (F_gm_beginsNow m S w12).bind fun w15 => K_gm_gateNear_68 N N S w15 m (J n) (J (pM h c g t p 4)) (J 1))) := by
        rw [ed]
        by_cases y : c 4 ≤ 2000000
        · obtain ⟨R, f, e1, e2, e3, e4⟩ := w1 y
          rw [e1, if_pos y]
          simp only [Option.bind_some, n1, if_false]
          rw [e2]
          exact BK_wr e3 (gm_gateNearLoop hN hl hI z hb (by rw [x7]; exact hV.1.2.2.2.1) hB N 0 _ (by decide) (by omega) y e4)
        · obtain ⟨R, f, e1, e2, e3⟩ := w2 (by omega)
          rw [e1, if_neg y]
          simp only [Option.bind_some, if_true]
          exact BK_wr1 (BK_bind (BK_back hN hl))
      obtain ⟨v', e1, e2⟩ := BK_mq main
      exact ⟨v', e1, mqt_mq (mq_tr m1 e2)⟩
    · rw [if_neg o, if_neg o, if_pos rfl]
      exact ⟨v1, rfl, mqt_mq m1⟩
  · rw [if_neg z, if_pos rfl, if_neg z]
    unfold K_gm_gateNear_21
    rw [grd_true _ hl.1, gm_fails1 hl]
    simp only [Option.bind_some, n1, if_false]
    rw [th_th]
    exact ⟨_, rfl, mqt_th⟩
end NEAR
