/-! Questions about the kept measurements. -/
section KEPT
variable {S : shp} {v : vl} {a b m N q : Nat} {h c g t p X : Nat → Int} {M : Nat → Nat → Int} {sv : Option sta} {ps : List sta} {re ca ch : Int}
-- the value with another correction
def vwO (h c g : Nat → Int) (M : Nat → Nat → Int) (i w : Int) : Nat ⊕ Int := if 0 ≤ i ∧ i < h 5 then (if -99 ≤ w ∧ w ≤ 99 then .inr (if M i.toNat 0 = 0 then valZ (M i.toNat 3) (M i.toNat 5) (c 0) w (g 4) else valZ (M i.toNat 5) (M i.toNat 3) (c 0) w (g 4)) else .inl 2) else .inl 1
theorem gc_valueWith {i w : Int} (hR : cR S v a (h, c, g, t, p, M) sv ps re ca ch q) (hi : -2147483648 ≤ i ∧ i < 2147483648) (hw : -2147483648 ≤ w ∧ w < 2147483648) : F_gc_valueWith a (J i) (J w) S v = some (rC f21 (vwO h c g M i w)) := by
  have hV := cR_V hR
  obtain ⟨k0, g5, n0, -⟩ := cR_now hR
  obtain ⟨f1, f2⟩ := gc_found hR hi
  unfold F_gc_valueWith vwO
  rw [grd_true _ k0]
  by_cases z : 0 ≤ i ∧ i < h 5
  · obtain ⟨r, s1, s2, s3⟩ := f1 z
    obtain ⟨m0, m1, m2, m3, m4, m5, m6, m7⟩ := hV.2.2.2.2.2 i.toNat (by omega)
    have e0 : rw v r 0 = J (M i.toNat 0) := s3 0 (by decide)
    have e3 : rw v r 3 = J (M i.toNat 3) := s3 3 (by decide)
    have e5 : rw v r 5 = J (M i.toNat 5) := s3 5 (by decide)
    rw [s1, bx_r, gc_within hw (by decide) (by decide), if_pos z]
    simp only [oc2]
    by_cases y : -99 ≤ w ∧ w ≤ 99
    · rw [if_pos y, if_pos y, bx_r, grd_true _ s2, gi_rw, e0]
      simp only [gi_x, e3, e5]
      by_cases x : M i.toNat 0 = 0
      · have V := st_valueOf (S := S) (v := v) (o := M i.toNat 3) (n := M i.toNat 5) (k := w) hR.2.1.1.1 hV.2.1.1.1 (stV_P hV) m3 (by omega) y
        rw [if_pos (by rw [x]), if_pos x, g5]
        simp only [Option.bind_some]
        rw [grd_true _ n0, V]
        rfl
      · have m7' := m7 (by omega)
        have V := st_valueOf (S := S) (v := v) (o := M i.toNat 5) (n := M i.toNat 3) (k := w) hR.2.1.1.1 hV.2.1.1.1 (stV_P hV) (by omega) (by omega) y
        rw [if_neg (fun u => x ((J_eq (by omega) (by decide)).mp u)), if_neg x, g5]
        simp only [Option.bind_some]
        rw [grd_true _ n0, V]
        rfl
    · rw [if_neg y, if_neg y, bx_l]
      rfl
  · rw [f2 z, bx_l, if_neg z]
    rfl
theorem gm_valueWith {i w : Int} (hR : dR S v m (h, c, g, t, p, M) sv ps re ca ch) (hV : stV h c g t p M) (hi : -2147483648 ≤ i ∧ i < 2147483648) (hw : -2147483648 ≤ w ∧ w < 2147483648) : F_gm_valueWith m (J i) (J w) S v = some (J (oVal (vwO h c g M i w)), th v m (oThr (vwO h c g M i w))) := by
  obtain ⟨hl, h1, h2, h3, -⟩ := hR
  have hv5 := hV.1.2.2.2.2
  have n1 : ¬ J 1 = J 0 := by decide
  have R22 : rw (th v m 0) (m + 1) 22 = J (h 5) := by rw [rw_th (by omega), h1.1 22 (by decide)]; rfl
  unfold F_gm_valueWith vwO
  rw [grd_true _ hl.1]
  simp only [lt_def, si_th]
  rw [gm_noMeas hl R22 hv5 hi]
  simp only [Option.bind_some]
  by_cases z : 0 ≤ i ∧ i < h 5
  · rw [if_pos z, if_pos z]
    simp only [if_true]
    rw [gm_isUpTo hw (by decide)]
    simp only [Option.bind_some]
    unfold K_gm_valueWith_28
    by_cases y : -99 ≤ w ∧ w ≤ 99
    · obtain ⟨m0, m1, m2, m3, m4, m5, m6, m7⟩ := hV.2.2.2.2.2 i.toNat (by omega)
      have r1 : rw (th v m 0) (m + 1) 1 = J (c 0) := by rw [rw_th (by omega), h1.1 1 (by decide)]; rfl
      have r4 : rw (th v m 0) (m + 1) 4 = J (g 4) := by rw [rw_th (by omega), h1.1 4 (by decide)]; rfl
      have o3 : F_gm_of m (J i) (J 3) S (th v m 0) = some (J (M i.toNat 3)) := gm_of hl (by rw [rw_th (by omega)]; exact rowM_m h1 z (by decide)) (by omega) (by decide)
      have o6 : F_gm_of m (J i) (J 6) S (th v m 0) = some (J (M i.toNat 5)) := gm_of hl (by rw [rw_th (by omega)]; exact rowM_m h1 z (by decide)) (by omega) (by decide)
      have o0 : F_gm_of m (J i) (J 0) S (th v m 0) = some (J (M i.toNat 0)) := gm_of hl (by rw [rw_th (by omega)]; exact rowM_m h1 z (by decide)) (by omega) (by decide)
      rw [if_pos y, if_neg n1, if_pos y, grd_true _ hl.1, gm_fails0]
      simp only [Option.bind_some, if_true]
      rw [grd_true _ hl.1, o3]
      simp only [Option.bind_some]
      rw [o6]
      simp only [Option.bind_some]
      rw [o0]
      simp only [Option.bind_some]
      by_cases x : M i.toNat 0 = 0
      · rw [if_neg (show ¬ J (M i.toNat 0) = J 1 by rw [x]; decide), if_pos x, gm_gateValue hl r1 r4 hV.2.1.1.1 (stV_P hV) m3 (by omega) y]
        rfl
      · have x1 : M i.toNat 0 = 1 := by omega
        have m7' := m7 x1
        rw [if_pos (show J (M i.toNat 0) = J 1 by rw [x1]), if_neg x, gm_periodValue hl r1 r4 hV.2.1.1.1 (stV_P hV) (by omega) (by omega) y]
        rfl
    · rw [if_neg y, if_pos rfl, if_neg y, grd_true _ hl.1, gm_fails1 hl]
      simp only [Option.bind_some, n1, if_false]
      rw [th_th]
      rfl
  · rw [if_neg z, if_neg z]
    simp only [n1, if_false]
    rw [th_th]
    rfl
-- the correction that fits
def cfZ (V : Int → Int) : Nat → Int → Int → Int → Int
  | 0, _, b, _ => b
  | f + 1, k, b, d => if V k < d then cfZ V f (k + 1) k (V k) else cfZ V f (k + 1) b d
theorem cfZ_s {V : Int → Int} {f : Nat} {k b d : Int} : cfZ V (f + 1) k b d = if V k < d then cfZ V f (k + 1) k (V k) else cfZ V f (k + 1) b d := rfl
def cfV (h c g t p : Nat → Int) (tgt k : Int) : Int := absZ (valZ (gO t p (h 1).toNat c g) (h 1) (c 0) k (g 4) - tgt)
def cfO (h c g t p : Nat → Int) (tgt : Int) : Int := if gW h c = 0 then cfZ (cfV h c g t p tgt) 198 (-98) (-99) (cfV h c g t p tgt (-99)) else -100
theorem cfV_B (hV : stV h c g t p M) {tgt k : Int} (ht : 0 ≤ tgt ∧ tgt ≤ 2000000) (hW : gW h c = 0) (hk : -99 ≤ k ∧ k ≤ 99) : (-2147483647 ≤ valZ (gO t p (h 1).toNat c g) (h 1) (c 0) k (g 4) - tgt ∧ valZ (gO t p (h 1).toNat c g) (h 1) (c 0) k (g 4) - tgt ≤ 2147483647) ∧ 0 ≤ cfV h c g t p tgt k ∧ cfV h c g t p tgt k ≤ 2147483647 := by
  have hv1 := hV.1.2.1
  have := gO_val (i := (h 1).toNat) (k := k) hV (by omega) hk (gW_0.mp hW)
  rw [show (((h 1).toNat : Nat) : Int) = h 1 by omega] at this
  have hb : -2147483647 ≤ valZ (gO t p (h 1).toNat c g) (h 1) (c 0) k (g 4) - tgt ∧ valZ (gO t p (h 1).toNat c g) (h 1) (c 0) k (g 4) - tgt ≤ 2147483647 := by omega
  exact ⟨hb, absZ_B hb⟩
theorem gc_corrLoop {tgt : Int} (ka : kin S a = some (0, 5)) (ga : gr S a 5 = some b) (hM : stM S v b h c g t p) (hV : stV h c g t p M) (ht : 0 ≤ tgt ∧ tgt ≤ 2000000) (hW : gW h c = 0) : ∀ (f F : Nat) (k x d : Int), k + f = 100 → -99 ≤ k → f < F → 0 ≤ d ∧ d ≤ 2147483647 →
    K_gc_correctionFor_63 N F S v a (J tgt) (J (gO t p (h 1).toNat c g)) (J x) (J d) (J k) = some (.inr (J (cfZ (cfV h c g t p tgt) f k x d), S, v))
  | _, 0, k, x, d, _, _, h, _ => absurd h (Nat.not_lt_zero _)
  | 0, F + 1, k, x, d, hk, _, _, _ => by
    show Y_gc_correctionFor_63 N (K_gc_correctionFor_63 N F) S v a (J tgt) (J (gO t p (h 1).toNat c g)) (J x) (J d) (J k) = _
    unfold Y_gc_correctionFor_63
    rw [if_pos ((J_lt (by decide) (by omega)).mpr (by omega))]
    rfl
  | f + 1, F + 1, k, x, d, hk, hk2, hF, hd => by
    have hv1 := hV.1.2.1
    obtain ⟨hB, hA⟩ := cfV_B (k := k) hV ht hW (by omega)
    obtain ⟨-, -, -, o1, o2⟩ := gG_V (G := (h 1).toNat) hV.2.1.1 hV.2.2.1 (gW_0.mp hW)
    have V := st_valueOf (S := S) (v := v) (o := gO t p (h 1).toNat c g) (n := h 1) (k := k) hM hV.2.1.1.1 (stV_P hV) ⟨o1, o2⟩ (by omega) (by omega)
    have r1 : rw v b 1 = J (h 1) := hM.2.1 1 (by decide)
    show Y_gc_correctionFor_63 N (K_gc_correctionFor_63 N F) S v a (J tgt) (J (gO t p (h 1).toNat c g)) (J x) (J d) (J k) = _
    unfold Y_gc_correctionFor_63
    rw [if_neg (fun z => by have := (J_lt (by decide) (by omega)).mp z; omega), grd_true _ ka, ga]
    simp only [Option.bind_some]
    rw [grd_true _ hM.1.1, gi_rw, r1, V]
    simp only [Option.bind_some]
    rw [← J_sub, ma_abs (z := valZ (gO t p (h 1).toNat c g) (h 1) (c 0) k (g 4) - tgt) (by omega)]
    simp only [Option.bind_some]
    rw [← J_add, cfZ_s]
    have ev : absZ (valZ (gO t p (h 1).toNat c g) (h 1) (c 0) k (g 4) - tgt) = cfV h c g t p tgt k := rfl
    rw [ev]
    by_cases w : cfV h c g t p tgt k < d
    · rw [if_pos ((J_lt (by omega) (by omega)).mpr w), if_pos w]
      exact gc_corrLoop ka ga hM hV ht hW f F (k + 1) k _ (by omega) (by omega) (by omega) hA
    · rw [if_neg (fun z => w ((J_lt (by omega) (by omega)).mp z)), if_neg w]
      exact gc_corrLoop ka ga hM hV ht hW f F (k + 1) x d (by omega) (by omega) (by omega) hd
theorem gc_correctionFor {n : Int} (hN : 7000000 ≤ N) (hw : wfS S) (hR : cR S v a (h, c, g, t, p, M) sv ps re ca ch q) (hn : -2147483648 ≤ n ∧ n < 2147483648) :
    QC (F_gc_correctionFor N a (J n) S v) (fun _ => 0) (rgO 0 2000000 n (cfO h c g t p n)) (PC a (h, c, g, t, p, M) sv ps re ca ch q S v) := by
  obtain ⟨k0, g5, n0, -⟩ := cR_now hR
  unfold F_gc_correctionFor rgO
  rw [gc_within hn (by decide) (by decide)]
  by_cases z : 0 ≤ n ∧ n ≤ 2000000
  · obtain ⟨S1, v1, s1, s2, R1, w1, x1⟩ := fresh_R (N := N) (by omega) hw hR (Or.inl rfl)
    obtain ⟨b0, -⟩ := id s2.1.1
    have hV := cR_V hR
    obtain ⟨y1, y2⟩ := st_gate (G := (h 1).toNat) hN w1 s2.1 s2.2 hV.2.1 hV.2.2.1 hV.1 (by show h 1 = _; have := hV.1.2.1; omega)
    rw [if_pos z, if_pos z, bx_r]
    simp only [k0, grd_pos, (gr67 hR.1).1, Option.bind_some, s1, oc2, b0]
    unfold cfO
    by_cases y : (tkN (h 1).toNat c) 4 ≤ 2000000
    · have yW := gW_0.mpr y
      obtain ⟨S2, v2, t1, t2, t3, t4⟩ := y1 y
      have x2 := exi_tr x1 t4
      have P := scr_P (k := 1) (l := 7) hR hw (Or.inl rfl) t2.1 x2 (by decide) (by decide)
      have e5 : rw v2 (a + 17) 5 = J (kpN (h 5)) := t2.2.1 5 (by decide)
      have L : _ = some (J (mN (gM h c g t p) 3)) := st_latest_kp (w := 3) (h' := h) (show 100 ≤ N by omega) t2.1 e5 hV.1.2.2.2.2 t3 hV.2.2.2.2.2 (gM_V hV.1 hV.2.1 hV.2.2.1 hV.2.2.2.1 hV.2.2.2.2.1 yW) (by decide)
      have m3 : mN (gM h c g t p) 3 = gO t p (h 1).toNat c g := rfl
      have hv1 := hV.1.2.1
      have hM2 : stM S2 v2 (a + 11) h c g t p := P.2.1.2.1.1.1
      have r1 : rw v2 (a + 11) 1 = J (h 1) := hM2.2.1 1 (by decide)
      obtain ⟨q0, q5, qn, -⟩ := cR_now P.2.1
      obtain ⟨hB, hA⟩ := cfV_B (k := -99) hV z yW (by decide)
      obtain ⟨-, -, -, o1, o2⟩ := gG_V (G := (h 1).toNat) hV.2.1.1 hV.2.2.1 y
      have V := st_valueOf (S := S2) (v := v2) (o := gO t p (h 1).toNat c g) (n := h 1) (k := -99) hM2 hV.2.1.1.1 (stV_P hV) ⟨o1, o2⟩ (by omega) (by decide)
      rw [t1, if_pos yW]
      simp only [Option.bind_some, if_true, (gr67 P.2.1.1).1, t2.1.1, grd_pos]
      rw [L, m3]
      simp only [Option.bind_some]
      rw [q5]
      simp only [Option.bind_some]
      rw [grd_true _ qn, gi_rw, r1, V]
      simp only [Option.bind_some]
      rw [← J_sub, ma_abs (z := valZ (gO t p (h 1).toNat c g) (h 1) (c 0) (-99) (g 4) - n) (by omega)]
      simp only [Option.bind_some]
      exact ⟨S2, v2, gc_corrLoop q0 q5 hM2 hV z yW 198 N (-98) (-99) _ (by decide) (by decide) (by omega) hA, P⟩
    · obtain ⟨v2, t1, t2⟩ := y2 (show 2000000 < (tkN (h 1).toNat c) 4 by omega)
      have n10 : ¬ J 1 = J 0 := by decide
      rw [t1, if_neg (fun x => y (gW_0.mp x))]
      simp only [Option.bind_some, n10, if_false]
      exact ⟨S1, v2, rfl, scr_P hR hw (Or.inl rfl) s2.1.1 (exi_tr x1 (exi_fri t2)) (by decide) (by decide)⟩
  · rw [if_neg z, if_neg z, bx_l]
    rfl
theorem gm_corrLoop {tgt : Int} (hl : mdL S m) (hR : rowM (rw v (m + 1)) h c g t p M) (hV : stV h c g t p M) (ht : 0 ≤ tgt ∧ tgt ≤ 2000000) (hW : gW h c = 0) : ∀ (f F : Nat) (k x d : Int), k + f = 100 → -99 ≤ k → f < F → 0 ≤ d ∧ d ≤ 2147483647 → -99 ≤ x ∧ x ≤ 99 →
    K_gm_correctionFor_55 N F S v m (J tgt) (J (gO t p (h 1).toNat c g)) (J x) (J d) (J k) = some (J (cfZ (cfV h c g t p tgt) f k x d), v)
  | _, 0, k, x, d, _, _, h, _, _ => absurd h (Nat.not_lt_zero _)
  | 0, F + 1, k, x, d, hk, _, _, _, _ => by
    show Y_gm_correctionFor_55 N (K_gm_correctionFor_55 N F S) S v m (J tgt) (J (gO t p (h 1).toNat c g)) (J x) (J d) (J k) = _
    unfold Y_gm_correctionFor_55
    rw [if_pos ((J_lt (by decide) (by omega)).mpr (by omega))]
    rfl
  | f + 1, F + 1, k, x, d, hk, hk2, hF, hd, hx => by
    have hv1 := hV.1.2.1
    obtain ⟨hB, hA⟩ := cfV_B (k := k) hV ht hW (by omega)
    obtain ⟨-, -, -, o1, o2⟩ := gG_V (G := (h 1).toNat) hV.2.1.1 hV.2.2.1 (gW_0.mp hW)
    have r1 : rw v (m + 1) 1 = J (c 0) := hR.1 1 (by decide)
    have r4 : rw v (m + 1) 4 = J (g 4) := hR.1 4 (by decide)
    have r5 : rw v (m + 1) 5 = J (h 1) := hR.1 5 (by decide)
    show Y_gm_correctionFor_55 N (K_gm_correctionFor_55 N F S) S v m (J tgt) (J (gO t p (h 1).toNat c g)) (J x) (J d) (J k) = _
    unfold Y_gm_correctionFor_55
    rw [if_neg (fun z => by have := (J_lt (by decide) (by omega)).mp z; omega), grd_true _ hl.1, hl.2.1]
    simp only [Option.bind_some]
    rw [grd_true _ hl.2.2.1, gi_rw, r5, gm_gateValue hl r1 r4 hV.2.1.1.1 (stV_P hV) ⟨o1, o2⟩ (by omega) (by omega)]
    simp only [Option.bind_some]
    rw [← J_sub, ma_abs (z := valZ (gO t p (h 1).toNat c g) (h 1) (c 0) k (g 4) - tgt) (by omega)]
    simp only [Option.bind_some]
    rw [← J_add, cfZ_s, if_neg (fun z => by have := (J_lt (by omega) (by decide)).mp z; omega)]
    have ev : absZ (valZ (gO t p (h 1).toNat c g) (h 1) (c 0) k (g 4) - tgt) = cfV h c g t p tgt k := rfl
    rw [ev]
    by_cases w : cfV h c g t p tgt k < d
    · rw [if_pos ((J_lt (by omega) (by omega)).mpr w), if_pos w]
      exact gm_corrLoop hl hR hV ht hW f F (k + 1) k _ (by omega) (by omega) (by omega) hA (by omega)
    · rw [if_neg (fun z => w ((J_lt (by omega) (by omega)).mp z)), if_neg w]
      exact gm_corrLoop hl hR hV ht hW f F (k + 1) x d (by omega) (by omega) (by omega) hd hx
theorem gm_correctionFor {n : Int} (hN : 7000000 ≤ N) (hR : dR S v m (h, c, g, t, p, M) sv ps re ca ch) (hV : stV h c g t p M) (hn : -2147483648 ≤ n ∧ n < 2147483648) :
    QM (F_gm_correctionFor N m (J n) S v) (rgO 0 2000000 n (cfO h c g t p n)) (fun v' => mqt m v v' (oThr (rgO 0 2000000 n (cfO h c g t p n)))) := by
  obtain ⟨hl, h1, -⟩ := hR
  have n1 : ¬ J 1 = J 0 := by decide
  unfold F_gm_correctionFor
  rw [grd_true _ hl.1]
  simp only [lt_def, si_th]
  rw [gm_inRange hn (by decide) (by decide)]
  simp only [Option.bind_some]
  unfold rgO K_gm_correctionFor_21
  by_cases z : 0 ≤ n ∧ n ≤ 2000000
  · obtain ⟨v1, e1, m1⟩ := (gm_foretold (v := th v m 0) (x := 3) (h := h) (c := c) (g := g) (t := t) (p := p) (M := M) hN hl (th_rowM h1) hV (by decide)).1
    have R1 : rowM (rw v1 (m + 1)) h c g t p M := rowM_ag (th_rowM h1) (stV_8 hV).2.2 hV.1.2.2.2.2.2 m1.2.2.2
    rw [if_pos z, if_neg n1, if_pos z, grd_true _ hl.1, gm_fails0]
    simp only [Option.bind_some, if_true]
    rw [grd_true _ hl.1, e1]
    simp only [Option.bind_some]
    have m3 : mN (gM h c g t p) 3 = gO t p (h 1).toNat c g := rfl
    unfold fG cfO
    by_cases o : gW h c = 0
    · have hv1 := hV.1.2.1
      obtain ⟨-, -, -, o1, o2⟩ := gG_V (G := (h 1).toNat) hV.2.1.1 hV.2.2.1 (gW_0.mp o)
      obtain ⟨hB, hA⟩ := cfV_B (k := -99) hV z o (by decide)
      have r1 : rw v1 (m + 1) 1 = J (c 0) := R1.1 1 (by decide)
      have r4 : rw v1 (m + 1) 4 = J (g 4) := R1.1 4 (by decide)
      have r5 : rw v1 (m + 1) 5 = J (h 1) := R1.1 5 (by decide)
      rw [if_pos o, m3, if_pos o, if_neg (show ¬ J (gO t p (h 1).toNat c g) = J (-1) from fun z => by have := (J_eq (by omega) (by decide)).mp z; omega)]
      obtain ⟨F, rfl⟩ : ∃ F, N = F + 1 := ⟨N - 1, by omega⟩
      have main : K_gm_correctionFor_55 (F + 1) (F + 1) S v1 m (J n) (J (gO t p (h 1).toNat c g)) (J (-100)) (J 0) (J (-99)) = some (J (cfZ (cfV h c g t p n) 198 (-98) (-99) (cfV h c g t p n (-99))), v1) := by
        show Y_gm_correctionFor_55 (F + 1) (K_gm_correctionFor_55 (F + 1) F S) S v1 m (J n) (J (gO t p (h 1).toNat c g)) (J (-100)) (J 0) (J (-99)) = _
        unfold Y_gm_correctionFor_55
        rw [if_neg (by decide), grd_true _ hl.1, hl.2.1]
        simp only [Option.bind_some]
        rw [grd_true _ hl.2.2.1, gi_rw, r5, gm_gateValue hl r1 r4 hV.2.1.1.1 (stV_P hV) ⟨o1, o2⟩ (by omega) (by decide)]
        simp only [Option.bind_some]
        rw [← J_sub, ma_abs (z := valZ (gO t p (h 1).toNat c g) (h 1) (c 0) (-99) (g 4) - n) (by omega)]
        simp only [Option.bind_some]
        rw [if_pos (by decide)]
        exact gm_corrLoop (N := F + 1) hl R1 hV z o 198 F (-98) (-99) _ (by decide) (by decide) (by omega) hA (by decide)
      exact ⟨v1, main, mqt_mq m1⟩
    · rw [if_neg o, if_neg o, if_pos rfl]
      exact ⟨v1, rfl, mqt_mq m1⟩
  · rw [if_neg z, if_pos rfl, if_neg z, grd_true _ hl.1, gm_fails1 hl]
    simp only [Option.bind_some, n1, if_false]
    rw [th_th]
    exact ⟨_, rfl, mqt_th⟩
end KEPT
